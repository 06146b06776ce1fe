theorem dX0_init_0 : decode cX0_init 0 = .ok (.aload_n 0, 1) := by decide +kernel
theorem dX0_init_1 : decode cX0_init 1 = .ok (.invokespecial 3, 3) := by decide +kernel
theorem dX0_init_4 : decode cX0_init 4 = .ok (.aload_n 0, 1) := by decide +kernel
theorem dX0_init_5 : decode cX0_init 5 = .ok (.bipush 12, 2) := by decide +kernel
theorem dX0_init_7 : decode cX0_init 7 = .ok (.newarray .int, 2) := by decide +kernel
theorem dX0_init_9 : decode cX0_init 9 = .ok (.putfield 9, 3) := by decide +kernel
theorem dX0_init_12 : decode cX0_init 12 = .ok (.aload_n 0, 1) := by decide +kernel
theorem dX0_init_13 : decode cX0_init 13 = .ok (.bipush 24, 2) := by decide +kernel
theorem dX0_init_15 : decode cX0_init 15 = .ok (.newarray .int, 2) := by decide +kernel
theorem dX0_init_17 : decode cX0_init 17 = .ok (.putfield 15, 3) := by decide +kernel
theorem dX0_init_20 : decode cX0_init 20 = .ok (.aload_n 0, 1) := by decide +kernel
theorem dX0_init_21 : decode cX0_init 21 = .ok (.iconst 0, 1) := by decide +kernel
theorem dX0_init_22 : decode cX0_init 22 = .ok (.putfield 18, 3) := by decide +kernel
theorem dX0_init_25 : decode cX0_init 25 = .ok (.aload_n 0, 1) := by decide +kernel
theorem dX0_init_26 : decode cX0_init 26 = .ok (.iconst 0, 1) := by decide +kernel
theorem dX0_init_27 : decode cX0_init 27 = .ok (.putfield 22, 3) := by decide +kernel
theorem dX0_init_30 : decode cX0_init 30 = .ok (.aload_n 0, 1) := by decide +kernel
theorem dX0_init_31 : decode cX0_init 31 = .ok (.iconst 0, 1) := by decide +kernel
theorem dX0_init_32 : decode cX0_init 32 = .ok (.putfield 25, 3) := by decide +kernel
theorem dX0_init_35 : decode cX0_init 35 = .ok (.aload_n 0, 1) := by decide +kernel
theorem dX0_init_36 : decode cX0_init 36 = .ok (.iconst 0, 1) := by decide +kernel
theorem dX0_init_37 : decode cX0_init 37 = .ok (.putfield 28, 3) := by decide +kernel
theorem dX0_init_40 : decode cX0_init 40 = .ok (.return_, 1) := by decide +kernel
theorem dX0_read_0 : decode cX0_read 0 = .ok (.aload_n 0, 1) := by decide +kernel
theorem dX0_read_1 : decode cX0_read 1 = .ok (.iconst 0, 1) := by decide +kernel
theorem dX0_read_2 : decode cX0_read 2 = .ok (.putfield 18, 3) := by decide +kernel
theorem dX0_read_5 : decode cX0_read 5 = .ok (.aload_n 0, 1) := by decide +kernel
theorem dX0_read_6 : decode cX0_read 6 = .ok (.iconst 0, 1) := by decide +kernel
theorem dX0_read_7 : decode cX0_read 7 = .ok (.putfield 22, 3) := by decide +kernel
theorem dX0_read_10 : decode cX0_read 10 = .ok (.aload_n 0, 1) := by decide +kernel
theorem dX0_read_11 : decode cX0_read 11 = .ok (.iconst 0, 1) := by decide +kernel
theorem dX0_read_12 : decode cX0_read 12 = .ok (.putfield 25, 3) := by decide +kernel
theorem dX0_read_15 : decode cX0_read 15 = .ok (.iconst 0, 1) := by decide +kernel
theorem dX0_read_16 : decode cX0_read 16 = .ok (.istore_n 2, 1) := by decide +kernel
theorem dX0_read_17 : decode cX0_read 17 = .ok (.iload_n 2, 1) := by decide +kernel
theorem dX0_read_18 : decode cX0_read 18 = .ok (.aload_n 1, 1) := by decide +kernel
theorem dX0_read_19 : decode cX0_read 19 = .ok (.getfield 31, 3) := by decide +kernel
theorem dX0_read_22 : decode cX0_read 22 = .ok (.if_icmp .ge 24, 3) := by decide +kernel
theorem dX0_read_25 : decode cX0_read 25 = .ok (.aload_n 0, 1) := by decide +kernel
theorem dX0_read_26 : decode cX0_read 26 = .ok (.aload_n 1, 1) := by decide +kernel
theorem dX0_read_27 : decode cX0_read 27 = .ok (.getfield 36, 3) := by decide +kernel
theorem dX0_read_30 : decode cX0_read 30 = .ok (.iload_n 2, 1) := by decide +kernel
theorem dX0_read_31 : decode cX0_read 31 = .ok (.iaload, 1) := by decide +kernel
theorem dX0_read_32 : decode cX0_read 32 = .ok (.invokevirtual 39, 3) := by decide +kernel
theorem dX0_read_35 : decode cX0_read 35 = .ok (.ifCond .ne 5, 3) := by decide +kernel
theorem dX0_read_38 : decode cX0_read 38 = .ok (.iload_n 2, 1) := by decide +kernel
theorem dX0_read_39 : decode cX0_read 39 = .ok (.ireturn, 1) := by decide +kernel
theorem dX0_read_40 : decode cX0_read 40 = .ok (.iinc 2 1, 3) := by decide +kernel
theorem dX0_read_43 : decode cX0_read 43 = .ok (.goto (-26), 3) := by decide +kernel
theorem dX0_read_46 : decode cX0_read 46 = .ok (.aload_n 1, 1) := by decide +kernel
theorem dX0_read_47 : decode cX0_read 47 = .ok (.getfield 31, 3) := by decide +kernel
theorem dX0_read_50 : decode cX0_read 50 = .ok (.ireturn, 1) := by decide +kernel
theorem dX0_takes_0 : decode cX0_takes 0 = .ok (.aload_n 0, 1) := by decide +kernel
theorem dX0_takes_1 : decode cX0_takes 1 = .ok (.getfield 25, 3) := by decide +kernel
theorem dX0_takes_4 : decode cX0_takes 4 = .ok (.tableswitch 46 0 2 #[28, 34, 40], 28) := by decide +kernel
theorem dX0_takes_32 : decode cX0_takes 32 = .ok (.aload_n 0, 1) := by decide +kernel
theorem dX0_takes_33 : decode cX0_takes 33 = .ok (.iload_n 1, 1) := by decide +kernel
theorem dX0_takes_34 : decode cX0_takes 34 = .ok (.invokevirtual 43, 3) := by decide +kernel
theorem dX0_takes_37 : decode cX0_takes 37 = .ok (.ireturn, 1) := by decide +kernel
theorem dX0_takes_38 : decode cX0_takes 38 = .ok (.aload_n 0, 1) := by decide +kernel
theorem dX0_takes_39 : decode cX0_takes 39 = .ok (.iload_n 1, 1) := by decide +kernel
theorem dX0_takes_40 : decode cX0_takes 40 = .ok (.invokevirtual 46, 3) := by decide +kernel
theorem dX0_takes_43 : decode cX0_takes 43 = .ok (.ireturn, 1) := by decide +kernel
theorem dX0_takes_44 : decode cX0_takes 44 = .ok (.aload_n 0, 1) := by decide +kernel
theorem dX0_takes_45 : decode cX0_takes 45 = .ok (.iload_n 1, 1) := by decide +kernel
theorem dX0_takes_46 : decode cX0_takes 46 = .ok (.invokevirtual 49, 3) := by decide +kernel
theorem dX0_takes_49 : decode cX0_takes 49 = .ok (.ireturn, 1) := by decide +kernel
theorem dX0_takes_50 : decode cX0_takes 50 = .ok (.aload_n 0, 1) := by decide +kernel
theorem dX0_takes_51 : decode cX0_takes 51 = .ok (.iload_n 1, 1) := by decide +kernel
theorem dX0_takes_52 : decode cX0_takes 52 = .ok (.invokevirtual 52, 3) := by decide +kernel
theorem dX0_takes_55 : decode cX0_takes 55 = .ok (.ireturn, 1) := by decide +kernel
theorem dX0_takesInputs_0 : decode cX0_takesInputs 0 = .ok (.iload_n 1, 1) := by decide +kernel
theorem dX0_takesInputs_1 : decode cX0_takesInputs 1 = .ok (.bipush 49, 2) := by decide +kernel
theorem dX0_takesInputs_3 : decode cX0_takesInputs 3 = .ok (.if_icmp .lt 9, 3) := by decide +kernel
theorem dX0_takesInputs_6 : decode cX0_takesInputs 6 = .ok (.iload_n 1, 1) := by decide +kernel
theorem dX0_takesInputs_7 : decode cX0_takesInputs 7 = .ok (.bipush 52, 2) := by decide +kernel
theorem dX0_takesInputs_9 : decode cX0_takesInputs 9 = .ok (.if_icmp .le 5, 3) := by decide +kernel
theorem dX0_takesInputs_12 : decode cX0_takesInputs 12 = .ok (.iconst 0, 1) := by decide +kernel
theorem dX0_takesInputs_13 : decode cX0_takesInputs 13 = .ok (.ireturn, 1) := by decide +kernel
theorem dX0_takesInputs_14 : decode cX0_takesInputs 14 = .ok (.aload_n 0, 1) := by decide +kernel
theorem dX0_takesInputs_15 : decode cX0_takesInputs 15 = .ok (.iload_n 1, 1) := by decide +kernel
theorem dX0_takesInputs_16 : decode cX0_takesInputs 16 = .ok (.bipush 48, 2) := by decide +kernel
theorem dX0_takesInputs_18 : decode cX0_takesInputs 18 = .ok (.isub, 1) := by decide +kernel
theorem dX0_takesInputs_19 : decode cX0_takesInputs 19 = .ok (.putfield 18, 3) := by decide +kernel
theorem dX0_takesInputs_22 : decode cX0_takesInputs 22 = .ok (.aload_n 0, 1) := by decide +kernel
theorem dX0_takesInputs_23 : decode cX0_takesInputs 23 = .ok (.getfield 9, 3) := by decide +kernel
theorem dX0_takesInputs_26 : decode cX0_takesInputs 26 = .ok (.iconst 0, 1) := by decide +kernel
theorem dX0_takesInputs_27 : decode cX0_takesInputs 27 = .ok (.invokestatic 55, 3) := by decide +kernel
theorem dX0_takesInputs_30 : decode cX0_takesInputs 30 = .ok (.aload_n 0, 1) := by decide +kernel
theorem dX0_takesInputs_31 : decode cX0_takesInputs 31 = .ok (.aload_n 0, 1) := by decide +kernel
theorem dX0_takesInputs_32 : decode cX0_takesInputs 32 = .ok (.getfield 18, 3) := by decide +kernel
theorem dX0_takesInputs_35 : decode cX0_takesInputs 35 = .ok (.putfield 22, 3) := by decide +kernel
theorem dX0_takesInputs_38 : decode cX0_takesInputs 38 = .ok (.aload_n 0, 1) := by decide +kernel
theorem dX0_takesInputs_39 : decode cX0_takesInputs 39 = .ok (.iconst 1, 1) := by decide +kernel
theorem dX0_takesInputs_40 : decode cX0_takesInputs 40 = .ok (.putfield 25, 3) := by decide +kernel
theorem dX0_takesInputs_43 : decode cX0_takesInputs 43 = .ok (.iconst 1, 1) := by decide +kernel
theorem dX0_takesInputs_44 : decode cX0_takesInputs 44 = .ok (.ireturn, 1) := by decide +kernel
theorem dX0_takesGate_0 : decode cX0_takesGate 0 = .ok (.iload_n 1, 1) := by decide +kernel
theorem dX0_takesGate_1 : decode cX0_takesGate 1 = .ok (.bipush 59, 2) := by decide +kernel
theorem dX0_takesGate_3 : decode cX0_takesGate 3 = .ok (.if_icmp .ne 17, 3) := by decide +kernel
theorem dX0_takesGate_6 : decode cX0_takesGate 6 = .ok (.aload_n 0, 1) := by decide +kernel
theorem dX0_takesGate_7 : decode cX0_takesGate 7 = .ok (.getfield 22, 3) := by decide +kernel
theorem dX0_takesGate_10 : decode cX0_takesGate 10 = .ok (.aload_n 0, 1) := by decide +kernel
theorem dX0_takesGate_11 : decode cX0_takesGate 11 = .ok (.getfield 18, 3) := by decide +kernel
theorem dX0_takesGate_14 : decode cX0_takesGate 14 = .ok (.isub, 1) := by decide +kernel
theorem dX0_takesGate_15 : decode cX0_takesGate 15 = .ok (.bipush 8, 2) := by decide +kernel
theorem dX0_takesGate_17 : decode cX0_takesGate 17 = .ok (.if_icmp .lt 5, 3) := by decide +kernel
theorem dX0_takesGate_20 : decode cX0_takesGate 20 = .ok (.iconst 0, 1) := by decide +kernel
theorem dX0_takesGate_21 : decode cX0_takesGate 21 = .ok (.ireturn, 1) := by decide +kernel
theorem dX0_takesGate_22 : decode cX0_takesGate 22 = .ok (.aload_n 0, 1) := by decide +kernel
theorem dX0_takesGate_23 : decode cX0_takesGate 23 = .ok (.iconst 2, 1) := by decide +kernel
theorem dX0_takesGate_24 : decode cX0_takesGate 24 = .ok (.putfield 25, 3) := by decide +kernel
theorem dX0_takesGate_27 : decode cX0_takesGate 27 = .ok (.iconst 1, 1) := by decide +kernel
theorem dX0_takesGate_28 : decode cX0_takesGate 28 = .ok (.ireturn, 1) := by decide +kernel
theorem dX0_takesKind_0 : decode cX0_takesKind 0 = .ok (.iload_n 1, 1) := by decide +kernel
theorem dX0_takesKind_1 : decode cX0_takesKind 1 = .ok (.invokestatic 61, 3) := by decide +kernel
theorem dX0_takesKind_4 : decode cX0_takesKind 4 = .ok (.istore_n 2, 1) := by decide +kernel
theorem dX0_takesKind_5 : decode cX0_takesKind 5 = .ok (.iload_n 2, 1) := by decide +kernel
theorem dX0_takesKind_6 : decode cX0_takesKind 6 = .ok (.iconst (-1), 1) := by decide +kernel
theorem dX0_takesKind_7 : decode cX0_takesKind 7 = .ok (.if_icmp .eq 12, 3) := by decide +kernel
theorem dX0_takesKind_10 : decode cX0_takesKind 10 = .ok (.aload_n 0, 1) := by decide +kernel
theorem dX0_takesKind_11 : decode cX0_takesKind 11 = .ok (.getfield 22, 3) := by decide +kernel
theorem dX0_takesKind_14 : decode cX0_takesKind 14 = .ok (.bipush 12, 2) := by decide +kernel
theorem dX0_takesKind_16 : decode cX0_takesKind 16 = .ok (.if_icmp .lt 5, 3) := by decide +kernel
theorem dX0_takesKind_19 : decode cX0_takesKind 19 = .ok (.iconst 0, 1) := by decide +kernel
theorem dX0_takesKind_20 : decode cX0_takesKind 20 = .ok (.ireturn, 1) := by decide +kernel
theorem dX0_takesKind_21 : decode cX0_takesKind 21 = .ok (.aload_n 0, 1) := by decide +kernel
theorem dX0_takesKind_22 : decode cX0_takesKind 22 = .ok (.getfield 9, 3) := by decide +kernel
theorem dX0_takesKind_25 : decode cX0_takesKind 25 = .ok (.aload_n 0, 1) := by decide +kernel
theorem dX0_takesKind_26 : decode cX0_takesKind 26 = .ok (.getfield 22, 3) := by decide +kernel
theorem dX0_takesKind_29 : decode cX0_takesKind 29 = .ok (.iload_n 2, 1) := by decide +kernel
theorem dX0_takesKind_30 : decode cX0_takesKind 30 = .ok (.iastore, 1) := by decide +kernel
theorem dX0_takesKind_31 : decode cX0_takesKind 31 = .ok (.aload_n 0, 1) := by decide +kernel
theorem dX0_takesKind_32 : decode cX0_takesKind 32 = .ok (.dup, 1) := by decide +kernel
theorem dX0_takesKind_33 : decode cX0_takesKind 33 = .ok (.getfield 22, 3) := by decide +kernel
theorem dX0_takesKind_36 : decode cX0_takesKind 36 = .ok (.iconst 1, 1) := by decide +kernel
theorem dX0_takesKind_37 : decode cX0_takesKind 37 = .ok (.iadd, 1) := by decide +kernel
theorem dX0_takesKind_38 : decode cX0_takesKind 38 = .ok (.putfield 22, 3) := by decide +kernel
theorem dX0_takesKind_41 : decode cX0_takesKind 41 = .ok (.aload_n 0, 1) := by decide +kernel
theorem dX0_takesKind_42 : decode cX0_takesKind 42 = .ok (.iconst 0, 1) := by decide +kernel
theorem dX0_takesKind_43 : decode cX0_takesKind 43 = .ok (.putfield 28, 3) := by decide +kernel
theorem dX0_takesKind_46 : decode cX0_takesKind 46 = .ok (.aload_n 0, 1) := by decide +kernel
theorem dX0_takesKind_47 : decode cX0_takesKind 47 = .ok (.iconst 3, 1) := by decide +kernel
theorem dX0_takesKind_48 : decode cX0_takesKind 48 = .ok (.putfield 25, 3) := by decide +kernel
theorem dX0_takesKind_51 : decode cX0_takesKind 51 = .ok (.iconst 1, 1) := by decide +kernel
theorem dX0_takesKind_52 : decode cX0_takesKind 52 = .ok (.ireturn, 1) := by decide +kernel
theorem dX0_takesPin_0 : decode cX0_takesPin 0 = .ok (.iload_n 1, 1) := by decide +kernel
theorem dX0_takesPin_1 : decode cX0_takesPin 1 = .ok (.invokestatic 65, 3) := by decide +kernel
theorem dX0_takesPin_4 : decode cX0_takesPin 4 = .ok (.istore_n 2, 1) := by decide +kernel
theorem dX0_takesPin_5 : decode cX0_takesPin 5 = .ok (.aload_n 0, 1) := by decide +kernel
theorem dX0_takesPin_6 : decode cX0_takesPin 6 = .ok (.getfield 22, 3) := by decide +kernel
theorem dX0_takesPin_9 : decode cX0_takesPin 9 = .ok (.iconst 1, 1) := by decide +kernel
theorem dX0_takesPin_10 : decode cX0_takesPin 10 = .ok (.isub, 1) := by decide +kernel
theorem dX0_takesPin_11 : decode cX0_takesPin 11 = .ok (.istore_n 3, 1) := by decide +kernel
theorem dX0_takesPin_12 : decode cX0_takesPin 12 = .ok (.iload_n 2, 1) := by decide +kernel
theorem dX0_takesPin_13 : decode cX0_takesPin 13 = .ok (.iconst (-1), 1) := by decide +kernel
theorem dX0_takesPin_14 : decode cX0_takesPin 14 = .ok (.if_icmp .eq 25, 3) := by decide +kernel
theorem dX0_takesPin_17 : decode cX0_takesPin 17 = .ok (.iload_n 2, 1) := by decide +kernel
theorem dX0_takesPin_18 : decode cX0_takesPin 18 = .ok (.bipush 12, 2) := by decide +kernel
theorem dX0_takesPin_20 : decode cX0_takesPin 20 = .ok (.if_icmp .ge 19, 3) := by decide +kernel
theorem dX0_takesPin_23 : decode cX0_takesPin 23 = .ok (.iload_n 3, 1) := by decide +kernel
theorem dX0_takesPin_24 : decode cX0_takesPin 24 = .ok (.ifCond .lt 15, 3) := by decide +kernel
theorem dX0_takesPin_27 : decode cX0_takesPin 27 = .ok (.aload_n 0, 1) := by decide +kernel
theorem dX0_takesPin_28 : decode cX0_takesPin 28 = .ok (.getfield 28, 3) := by decide +kernel
theorem dX0_takesPin_31 : decode cX0_takesPin 31 = .ok (.aload_n 0, 1) := by decide +kernel
theorem dX0_takesPin_32 : decode cX0_takesPin 32 = .ok (.iload_n 3, 1) := by decide +kernel
theorem dX0_takesPin_33 : decode cX0_takesPin 33 = .ok (.invokevirtual 68, 3) := by decide +kernel
theorem dX0_takesPin_36 : decode cX0_takesPin 36 = .ok (.if_icmp .lt 5, 3) := by decide +kernel
theorem dX0_takesPin_39 : decode cX0_takesPin 39 = .ok (.iconst 0, 1) := by decide +kernel
theorem dX0_takesPin_40 : decode cX0_takesPin 40 = .ok (.ireturn, 1) := by decide +kernel
theorem dX0_takesPin_41 : decode cX0_takesPin 41 = .ok (.aload_n 0, 1) := by decide +kernel
theorem dX0_takesPin_42 : decode cX0_takesPin 42 = .ok (.getfield 15, 3) := by decide +kernel
theorem dX0_takesPin_45 : decode cX0_takesPin 45 = .ok (.iconst 2, 1) := by decide +kernel
theorem dX0_takesPin_46 : decode cX0_takesPin 46 = .ok (.iload_n 3, 1) := by decide +kernel
theorem dX0_takesPin_47 : decode cX0_takesPin 47 = .ok (.imul, 1) := by decide +kernel
theorem dX0_takesPin_48 : decode cX0_takesPin 48 = .ok (.aload_n 0, 1) := by decide +kernel
theorem dX0_takesPin_49 : decode cX0_takesPin 49 = .ok (.getfield 28, 3) := by decide +kernel
theorem dX0_takesPin_52 : decode cX0_takesPin 52 = .ok (.iadd, 1) := by decide +kernel
theorem dX0_takesPin_53 : decode cX0_takesPin 53 = .ok (.iload_n 2, 1) := by decide +kernel
theorem dX0_takesPin_54 : decode cX0_takesPin 54 = .ok (.iastore, 1) := by decide +kernel
theorem dX0_takesPin_55 : decode cX0_takesPin 55 = .ok (.aload_n 0, 1) := by decide +kernel
theorem dX0_takesPin_56 : decode cX0_takesPin 56 = .ok (.dup, 1) := by decide +kernel
theorem dX0_takesPin_57 : decode cX0_takesPin 57 = .ok (.getfield 28, 3) := by decide +kernel
theorem dX0_takesPin_60 : decode cX0_takesPin 60 = .ok (.iconst 1, 1) := by decide +kernel
theorem dX0_takesPin_61 : decode cX0_takesPin 61 = .ok (.iadd, 1) := by decide +kernel
theorem dX0_takesPin_62 : decode cX0_takesPin 62 = .ok (.putfield 28, 3) := by decide +kernel
theorem dX0_takesPin_65 : decode cX0_takesPin 65 = .ok (.aload_n 0, 1) := by decide +kernel
theorem dX0_takesPin_66 : decode cX0_takesPin 66 = .ok (.getfield 28, 3) := by decide +kernel
theorem dX0_takesPin_69 : decode cX0_takesPin 69 = .ok (.aload_n 0, 1) := by decide +kernel
theorem dX0_takesPin_70 : decode cX0_takesPin 70 = .ok (.iload_n 3, 1) := by decide +kernel
theorem dX0_takesPin_71 : decode cX0_takesPin 71 = .ok (.invokevirtual 68, 3) := by decide +kernel
theorem dX0_takesPin_74 : decode cX0_takesPin 74 = .ok (.if_icmp .ne 8, 3) := by decide +kernel
theorem dX0_takesPin_77 : decode cX0_takesPin 77 = .ok (.aload_n 0, 1) := by decide +kernel
theorem dX0_takesPin_78 : decode cX0_takesPin 78 = .ok (.iconst 1, 1) := by decide +kernel
theorem dX0_takesPin_79 : decode cX0_takesPin 79 = .ok (.putfield 25, 3) := by decide +kernel
theorem dX0_takesPin_82 : decode cX0_takesPin 82 = .ok (.iconst 1, 1) := by decide +kernel
theorem dX0_takesPin_83 : decode cX0_takesPin 83 = .ok (.ireturn, 1) := by decide +kernel
theorem dX0_kindOf_0 : decode cX0_kindOf 0 = .ok (.iload_n 0, 1) := by decide +kernel
theorem dX0_kindOf_1 : decode cX0_kindOf 1 = .ok (.lookupswitch 61 #[(65, 51), (68, 59), (78, 57), (79, 53), (88, 55)], 51) := by decide +kernel
theorem dX0_kindOf_52 : decode cX0_kindOf 52 = .ok (.iconst 1, 1) := by decide +kernel
theorem dX0_kindOf_53 : decode cX0_kindOf 53 = .ok (.ireturn, 1) := by decide +kernel
theorem dX0_kindOf_54 : decode cX0_kindOf 54 = .ok (.iconst 2, 1) := by decide +kernel
theorem dX0_kindOf_55 : decode cX0_kindOf 55 = .ok (.ireturn, 1) := by decide +kernel
theorem dX0_kindOf_56 : decode cX0_kindOf 56 = .ok (.iconst 3, 1) := by decide +kernel
theorem dX0_kindOf_57 : decode cX0_kindOf 57 = .ok (.ireturn, 1) := by decide +kernel
theorem dX0_kindOf_58 : decode cX0_kindOf 58 = .ok (.iconst 4, 1) := by decide +kernel
theorem dX0_kindOf_59 : decode cX0_kindOf 59 = .ok (.ireturn, 1) := by decide +kernel
theorem dX0_kindOf_60 : decode cX0_kindOf 60 = .ok (.iconst 5, 1) := by decide +kernel
theorem dX0_kindOf_61 : decode cX0_kindOf 61 = .ok (.ireturn, 1) := by decide +kernel
theorem dX0_kindOf_62 : decode cX0_kindOf 62 = .ok (.iconst (-1), 1) := by decide +kernel
theorem dX0_kindOf_63 : decode cX0_kindOf 63 = .ok (.ireturn, 1) := by decide +kernel
theorem dX0_isWhole_0 : decode cX0_isWhole 0 = .ok (.aload_n 0, 1) := by decide +kernel
theorem dX0_isWhole_1 : decode cX0_isWhole 1 = .ok (.getfield 25, 3) := by decide +kernel
theorem dX0_isWhole_4 : decode cX0_isWhole 4 = .ok (.iconst 1, 1) := by decide +kernel
theorem dX0_isWhole_5 : decode cX0_isWhole 5 = .ok (.if_icmp .ne 18, 3) := by decide +kernel
theorem dX0_isWhole_8 : decode cX0_isWhole 8 = .ok (.aload_n 0, 1) := by decide +kernel
theorem dX0_isWhole_9 : decode cX0_isWhole 9 = .ok (.getfield 22, 3) := by decide +kernel
theorem dX0_isWhole_12 : decode cX0_isWhole 12 = .ok (.aload_n 0, 1) := by decide +kernel
theorem dX0_isWhole_13 : decode cX0_isWhole 13 = .ok (.getfield 18, 3) := by decide +kernel
theorem dX0_isWhole_16 : decode cX0_isWhole 16 = .ok (.if_icmp .le 7, 3) := by decide +kernel
theorem dX0_isWhole_19 : decode cX0_isWhole 19 = .ok (.iconst 1, 1) := by decide +kernel
theorem dX0_isWhole_20 : decode cX0_isWhole 20 = .ok (.goto 4, 3) := by decide +kernel
theorem dX0_isWhole_23 : decode cX0_isWhole 23 = .ok (.iconst 0, 1) := by decide +kernel
theorem dX0_isWhole_24 : decode cX0_isWhole 24 = .ok (.ireturn, 1) := by decide +kernel
theorem dX0_isDrivenRightly_0 : decode cX0_isDrivenRightly 0 = .ok (.aload_n 0, 1) := by decide +kernel
theorem dX0_isDrivenRightly_1 : decode cX0_isDrivenRightly 1 = .ok (.getfield 18, 3) := by decide +kernel
theorem dX0_isDrivenRightly_4 : decode cX0_isDrivenRightly 4 = .ok (.istore_n 1, 1) := by decide +kernel
theorem dX0_isDrivenRightly_5 : decode cX0_isDrivenRightly 5 = .ok (.iload_n 1, 1) := by decide +kernel
theorem dX0_isDrivenRightly_6 : decode cX0_isDrivenRightly 6 = .ok (.aload_n 0, 1) := by decide +kernel
theorem dX0_isDrivenRightly_7 : decode cX0_isDrivenRightly 7 = .ok (.getfield 22, 3) := by decide +kernel
theorem dX0_isDrivenRightly_10 : decode cX0_isDrivenRightly 10 = .ok (.if_icmp .ge 42, 3) := by decide +kernel
theorem dX0_isDrivenRightly_13 : decode cX0_isDrivenRightly 13 = .ok (.iconst 0, 1) := by decide +kernel
theorem dX0_isDrivenRightly_14 : decode cX0_isDrivenRightly 14 = .ok (.istore_n 2, 1) := by decide +kernel
theorem dX0_isDrivenRightly_15 : decode cX0_isDrivenRightly 15 = .ok (.iload_n 2, 1) := by decide +kernel
theorem dX0_isDrivenRightly_16 : decode cX0_isDrivenRightly 16 = .ok (.aload_n 0, 1) := by decide +kernel
theorem dX0_isDrivenRightly_17 : decode cX0_isDrivenRightly 17 = .ok (.iload_n 1, 1) := by decide +kernel
theorem dX0_isDrivenRightly_18 : decode cX0_isDrivenRightly 18 = .ok (.invokevirtual 68, 3) := by decide +kernel
theorem dX0_isDrivenRightly_21 : decode cX0_isDrivenRightly 21 = .ok (.if_icmp .ge 25, 3) := by decide +kernel
theorem dX0_isDrivenRightly_24 : decode cX0_isDrivenRightly 24 = .ok (.aload_n 0, 1) := by decide +kernel
theorem dX0_isDrivenRightly_25 : decode cX0_isDrivenRightly 25 = .ok (.aload_n 0, 1) := by decide +kernel
theorem dX0_isDrivenRightly_26 : decode cX0_isDrivenRightly 26 = .ok (.iload_n 1, 1) := by decide +kernel
theorem dX0_isDrivenRightly_27 : decode cX0_isDrivenRightly 27 = .ok (.iload_n 2, 1) := by decide +kernel
theorem dX0_isDrivenRightly_28 : decode cX0_isDrivenRightly 28 = .ok (.invokevirtual 71, 3) := by decide +kernel
theorem dX0_isDrivenRightly_31 : decode cX0_isDrivenRightly 31 = .ok (.iload_n 1, 1) := by decide +kernel
theorem dX0_isDrivenRightly_32 : decode cX0_isDrivenRightly 32 = .ok (.invokevirtual 75, 3) := by decide +kernel
theorem dX0_isDrivenRightly_35 : decode cX0_isDrivenRightly 35 = .ok (.ifCond .ne 5, 3) := by decide +kernel
theorem dX0_isDrivenRightly_38 : decode cX0_isDrivenRightly 38 = .ok (.iconst 0, 1) := by decide +kernel
theorem dX0_isDrivenRightly_39 : decode cX0_isDrivenRightly 39 = .ok (.ireturn, 1) := by decide +kernel
theorem dX0_isDrivenRightly_40 : decode cX0_isDrivenRightly 40 = .ok (.iinc 2 1, 3) := by decide +kernel
theorem dX0_isDrivenRightly_43 : decode cX0_isDrivenRightly 43 = .ok (.goto (-28), 3) := by decide +kernel
theorem dX0_isDrivenRightly_46 : decode cX0_isDrivenRightly 46 = .ok (.iinc 1 1, 3) := by decide +kernel
theorem dX0_isDrivenRightly_49 : decode cX0_isDrivenRightly 49 = .ok (.goto (-44), 3) := by decide +kernel
theorem dX0_isDrivenRightly_52 : decode cX0_isDrivenRightly 52 = .ok (.iconst 1, 1) := by decide +kernel
theorem dX0_isDrivenRightly_53 : decode cX0_isDrivenRightly 53 = .ok (.ireturn, 1) := by decide +kernel
theorem dX0_mayDrive_0 : decode cX0_mayDrive 0 = .ok (.aload_n 0, 1) := by decide +kernel
theorem dX0_mayDrive_1 : decode cX0_mayDrive 1 = .ok (.iload_n 1, 1) := by decide +kernel
theorem dX0_mayDrive_2 : decode cX0_mayDrive 2 = .ok (.invokevirtual 79, 3) := by decide +kernel
theorem dX0_mayDrive_5 : decode cX0_mayDrive 5 = .ok (.ifCond .eq 32, 3) := by decide +kernel
theorem dX0_mayDrive_8 : decode cX0_mayDrive 8 = .ok (.iload_n 1, 1) := by decide +kernel
theorem dX0_mayDrive_9 : decode cX0_mayDrive 9 = .ok (.iload_n 2, 1) := by decide +kernel
theorem dX0_mayDrive_10 : decode cX0_mayDrive 10 = .ok (.if_icmp .lt 23, 3) := by decide +kernel
theorem dX0_mayDrive_13 : decode cX0_mayDrive 13 = .ok (.aload_n 0, 1) := by decide +kernel
theorem dX0_mayDrive_14 : decode cX0_mayDrive 14 = .ok (.getfield 9, 3) := by decide +kernel
theorem dX0_mayDrive_17 : decode cX0_mayDrive 17 = .ok (.iload_n 2, 1) := by decide +kernel
theorem dX0_mayDrive_18 : decode cX0_mayDrive 18 = .ok (.iaload, 1) := by decide +kernel
theorem dX0_mayDrive_19 : decode cX0_mayDrive 19 = .ok (.iconst 5, 1) := by decide +kernel
theorem dX0_mayDrive_20 : decode cX0_mayDrive 20 = .ok (.if_icmp .eq 13, 3) := by decide +kernel
theorem dX0_mayDrive_23 : decode cX0_mayDrive 23 = .ok (.aload_n 0, 1) := by decide +kernel
theorem dX0_mayDrive_24 : decode cX0_mayDrive 24 = .ok (.getfield 9, 3) := by decide +kernel
theorem dX0_mayDrive_27 : decode cX0_mayDrive 27 = .ok (.iload_n 1, 1) := by decide +kernel
theorem dX0_mayDrive_28 : decode cX0_mayDrive 28 = .ok (.iaload, 1) := by decide +kernel
theorem dX0_mayDrive_29 : decode cX0_mayDrive 29 = .ok (.iconst 5, 1) := by decide +kernel
theorem dX0_mayDrive_30 : decode cX0_mayDrive 30 = .ok (.if_icmp .ne 7, 3) := by decide +kernel
theorem dX0_mayDrive_33 : decode cX0_mayDrive 33 = .ok (.iconst 1, 1) := by decide +kernel
theorem dX0_mayDrive_34 : decode cX0_mayDrive 34 = .ok (.goto 4, 3) := by decide +kernel
theorem dX0_mayDrive_37 : decode cX0_mayDrive 37 = .ok (.iconst 0, 1) := by decide +kernel
theorem dX0_mayDrive_38 : decode cX0_mayDrive 38 = .ok (.ireturn, 1) := by decide +kernel
theorem dX0_has_0 : decode cX0_has 0 = .ok (.iload_n 1, 1) := by decide +kernel
theorem dX0_has_1 : decode cX0_has 1 = .ok (.ifCond .lt 15, 3) := by decide +kernel
theorem dX0_has_4 : decode cX0_has 4 = .ok (.iload_n 1, 1) := by decide +kernel
theorem dX0_has_5 : decode cX0_has 5 = .ok (.aload_n 0, 1) := by decide +kernel
theorem dX0_has_6 : decode cX0_has 6 = .ok (.getfield 22, 3) := by decide +kernel
theorem dX0_has_9 : decode cX0_has 9 = .ok (.if_icmp .ge 7, 3) := by decide +kernel
theorem dX0_has_12 : decode cX0_has 12 = .ok (.iconst 1, 1) := by decide +kernel
theorem dX0_has_13 : decode cX0_has 13 = .ok (.goto 4, 3) := by decide +kernel
theorem dX0_has_16 : decode cX0_has 16 = .ok (.iconst 0, 1) := by decide +kernel
theorem dX0_has_17 : decode cX0_has 17 = .ok (.ireturn, 1) := by decide +kernel
theorem dX0_pins_0 : decode cX0_pins 0 = .ok (.aload_n 0, 1) := by decide +kernel
theorem dX0_pins_1 : decode cX0_pins 1 = .ok (.getfield 9, 3) := by decide +kernel
theorem dX0_pins_4 : decode cX0_pins 4 = .ok (.iload_n 1, 1) := by decide +kernel
theorem dX0_pins_5 : decode cX0_pins 5 = .ok (.iaload, 1) := by decide +kernel
theorem dX0_pins_6 : decode cX0_pins 6 = .ok (.lookupswitch 40 #[(0, 34), (4, 36), (5, 38)], 34) := by decide +kernel
theorem dX0_pins_40 : decode cX0_pins 40 = .ok (.iconst 0, 1) := by decide +kernel
theorem dX0_pins_41 : decode cX0_pins 41 = .ok (.ireturn, 1) := by decide +kernel
theorem dX0_pins_42 : decode cX0_pins 42 = .ok (.iconst 1, 1) := by decide +kernel
theorem dX0_pins_43 : decode cX0_pins 43 = .ok (.ireturn, 1) := by decide +kernel
theorem dX0_pins_44 : decode cX0_pins 44 = .ok (.iconst 1, 1) := by decide +kernel
theorem dX0_pins_45 : decode cX0_pins 45 = .ok (.ireturn, 1) := by decide +kernel
theorem dX0_pins_46 : decode cX0_pins 46 = .ok (.iconst 2, 1) := by decide +kernel
theorem dX0_pins_47 : decode cX0_pins 47 = .ok (.ireturn, 1) := by decide +kernel
theorem dX0_driver_0 : decode cX0_driver 0 = .ok (.iload_n 2, 1) := by decide +kernel
theorem dX0_driver_1 : decode cX0_driver 1 = .ok (.aload_n 0, 1) := by decide +kernel
theorem dX0_driver_2 : decode cX0_driver 2 = .ok (.iload_n 1, 1) := by decide +kernel
theorem dX0_driver_3 : decode cX0_driver 3 = .ok (.invokevirtual 68, 3) := by decide +kernel
theorem dX0_driver_6 : decode cX0_driver 6 = .ok (.if_icmp .ge 16, 3) := by decide +kernel
theorem dX0_driver_9 : decode cX0_driver 9 = .ok (.aload_n 0, 1) := by decide +kernel
theorem dX0_driver_10 : decode cX0_driver 10 = .ok (.getfield 15, 3) := by decide +kernel
theorem dX0_driver_13 : decode cX0_driver 13 = .ok (.iconst 2, 1) := by decide +kernel
theorem dX0_driver_14 : decode cX0_driver 14 = .ok (.iload_n 1, 1) := by decide +kernel
theorem dX0_driver_15 : decode cX0_driver 15 = .ok (.imul, 1) := by decide +kernel
theorem dX0_driver_16 : decode cX0_driver 16 = .ok (.iload_n 2, 1) := by decide +kernel
theorem dX0_driver_17 : decode cX0_driver 17 = .ok (.iadd, 1) := by decide +kernel
theorem dX0_driver_18 : decode cX0_driver 18 = .ok (.iaload, 1) := by decide +kernel
theorem dX0_driver_19 : decode cX0_driver 19 = .ok (.goto 4, 3) := by decide +kernel
theorem dX0_driver_22 : decode cX0_driver 22 = .ok (.iconst (-1), 1) := by decide +kernel
theorem dX0_driver_23 : decode cX0_driver 23 = .ok (.ireturn, 1) := by decide +kernel
theorem dX0_copyFrom_0 : decode cX0_copyFrom 0 = .ok (.aload_n 0, 1) := by decide +kernel
theorem dX0_copyFrom_1 : decode cX0_copyFrom 1 = .ok (.aload_n 1, 1) := by decide +kernel
theorem dX0_copyFrom_2 : decode cX0_copyFrom 2 = .ok (.getfield 18, 3) := by decide +kernel
theorem dX0_copyFrom_5 : decode cX0_copyFrom 5 = .ok (.putfield 18, 3) := by decide +kernel
theorem dX0_copyFrom_8 : decode cX0_copyFrom 8 = .ok (.aload_n 0, 1) := by decide +kernel
theorem dX0_copyFrom_9 : decode cX0_copyFrom 9 = .ok (.aload_n 1, 1) := by decide +kernel
theorem dX0_copyFrom_10 : decode cX0_copyFrom 10 = .ok (.getfield 22, 3) := by decide +kernel
theorem dX0_copyFrom_13 : decode cX0_copyFrom 13 = .ok (.putfield 22, 3) := by decide +kernel
theorem dX0_copyFrom_16 : decode cX0_copyFrom 16 = .ok (.aload_n 1, 1) := by decide +kernel
theorem dX0_copyFrom_17 : decode cX0_copyFrom 17 = .ok (.getfield 9, 3) := by decide +kernel
theorem dX0_copyFrom_20 : decode cX0_copyFrom 20 = .ok (.iconst 0, 1) := by decide +kernel
theorem dX0_copyFrom_21 : decode cX0_copyFrom 21 = .ok (.aload_n 0, 1) := by decide +kernel
theorem dX0_copyFrom_22 : decode cX0_copyFrom 22 = .ok (.getfield 9, 3) := by decide +kernel
theorem dX0_copyFrom_25 : decode cX0_copyFrom 25 = .ok (.iconst 0, 1) := by decide +kernel
theorem dX0_copyFrom_26 : decode cX0_copyFrom 26 = .ok (.bipush 12, 2) := by decide +kernel
theorem dX0_copyFrom_28 : decode cX0_copyFrom 28 = .ok (.invokestatic 82, 3) := by decide +kernel
theorem dX0_copyFrom_31 : decode cX0_copyFrom 31 = .ok (.aload_n 1, 1) := by decide +kernel
theorem dX0_copyFrom_32 : decode cX0_copyFrom 32 = .ok (.getfield 15, 3) := by decide +kernel
theorem dX0_copyFrom_35 : decode cX0_copyFrom 35 = .ok (.iconst 0, 1) := by decide +kernel
theorem dX0_copyFrom_36 : decode cX0_copyFrom 36 = .ok (.aload_n 0, 1) := by decide +kernel
theorem dX0_copyFrom_37 : decode cX0_copyFrom 37 = .ok (.getfield 15, 3) := by decide +kernel
theorem dX0_copyFrom_40 : decode cX0_copyFrom 40 = .ok (.iconst 0, 1) := by decide +kernel
theorem dX0_copyFrom_41 : decode cX0_copyFrom 41 = .ok (.bipush 24, 2) := by decide +kernel
theorem dX0_copyFrom_43 : decode cX0_copyFrom 43 = .ok (.invokestatic 82, 3) := by decide +kernel
theorem dX0_copyFrom_46 : decode cX0_copyFrom 46 = .ok (.return_, 1) := by decide +kernel
theorem dX1_init_0 : decode cX1_init 0 = .ok (.aload_n 0, 1) := by decide +kernel
theorem dX1_init_1 : decode cX1_init 1 = .ok (.invokespecial 3, 3) := by decide +kernel
theorem dX1_init_4 : decode cX1_init 4 = .ok (.aload_n 0, 1) := by decide +kernel
theorem dX1_init_5 : decode cX1_init 5 = .ok (.bipush 40, 2) := by decide +kernel
theorem dX1_init_7 : decode cX1_init 7 = .ok (.newarray .int, 2) := by decide +kernel
theorem dX1_init_9 : decode cX1_init 9 = .ok (.putfield 9, 3) := by decide +kernel
theorem dX1_init_12 : decode cX1_init 12 = .ok (.aload_n 0, 1) := by decide +kernel
theorem dX1_init_13 : decode cX1_init 13 = .ok (.bipush 40, 2) := by decide +kernel
theorem dX1_init_15 : decode cX1_init 15 = .ok (.newarray .int, 2) := by decide +kernel
theorem dX1_init_17 : decode cX1_init 17 = .ok (.putfield 15, 3) := by decide +kernel
theorem dX1_init_20 : decode cX1_init 20 = .ok (.aload_n 0, 1) := by decide +kernel
theorem dX1_init_21 : decode cX1_init 21 = .ok (.bipush 40, 2) := by decide +kernel
theorem dX1_init_23 : decode cX1_init 23 = .ok (.newarray .int, 2) := by decide +kernel
theorem dX1_init_25 : decode cX1_init 25 = .ok (.putfield 18, 3) := by decide +kernel
theorem dX1_init_28 : decode cX1_init 28 = .ok (.aload_n 0, 1) := by decide +kernel
theorem dX1_init_29 : decode cX1_init 29 = .ok (.iconst 0, 1) := by decide +kernel
theorem dX1_init_30 : decode cX1_init 30 = .ok (.putfield 21, 3) := by decide +kernel
theorem dX1_init_33 : decode cX1_init 33 = .ok (.return_, 1) := by decide +kernel
theorem dX1_list_0 : decode cX1_list 0 = .ok (.aload_n 0, 1) := by decide +kernel
theorem dX1_list_1 : decode cX1_list 1 = .ok (.iconst 0, 1) := by decide +kernel
theorem dX1_list_2 : decode cX1_list 2 = .ok (.putfield 21, 3) := by decide +kernel
theorem dX1_list_5 : decode cX1_list 5 = .ok (.iconst 0, 1) := by decide +kernel
theorem dX1_list_6 : decode cX1_list 6 = .ok (.istore_n 2, 1) := by decide +kernel
theorem dX1_list_7 : decode cX1_list 7 = .ok (.iload_n 2, 1) := by decide +kernel
theorem dX1_list_8 : decode cX1_list 8 = .ok (.aload_n 1, 1) := by decide +kernel
theorem dX1_list_9 : decode cX1_list 9 = .ok (.getfield 25, 3) := by decide +kernel
theorem dX1_list_12 : decode cX1_list 12 = .ok (.if_icmp .ge 19, 3) := by decide +kernel
theorem dX1_list_15 : decode cX1_list 15 = .ok (.aload_n 0, 1) := by decide +kernel
theorem dX1_list_16 : decode cX1_list 16 = .ok (.bipush 100, 2) := by decide +kernel
theorem dX1_list_18 : decode cX1_list 18 = .ok (.iconst 2, 1) := by decide +kernel
theorem dX1_list_19 : decode cX1_list 19 = .ok (.iload_n 2, 1) := by decide +kernel
theorem dX1_list_20 : decode cX1_list 20 = .ok (.imul, 1) := by decide +kernel
theorem dX1_list_21 : decode cX1_list 21 = .ok (.iadd, 1) := by decide +kernel
theorem dX1_list_22 : decode cX1_list 22 = .ok (.invokevirtual 30, 3) := by decide +kernel
theorem dX1_list_25 : decode cX1_list 25 = .ok (.iinc 2 1, 3) := by decide +kernel
theorem dX1_list_28 : decode cX1_list 28 = .ok (.goto (-21), 3) := by decide +kernel
theorem dX1_list_31 : decode cX1_list 31 = .ok (.iconst 0, 1) := by decide +kernel
theorem dX1_list_32 : decode cX1_list 32 = .ok (.istore_n 2, 1) := by decide +kernel
theorem dX1_list_33 : decode cX1_list 33 = .ok (.iload_n 2, 1) := by decide +kernel
theorem dX1_list_34 : decode cX1_list 34 = .ok (.aload_n 1, 1) := by decide +kernel
theorem dX1_list_35 : decode cX1_list 35 = .ok (.getfield 25, 3) := by decide +kernel
theorem dX1_list_38 : decode cX1_list 38 = .ok (.if_icmp .ge 20, 3) := by decide +kernel
theorem dX1_list_41 : decode cX1_list 41 = .ok (.aload_n 0, 1) := by decide +kernel
theorem dX1_list_42 : decode cX1_list 42 = .ok (.sipush 200, 3) := by decide +kernel
theorem dX1_list_45 : decode cX1_list 45 = .ok (.iconst 2, 1) := by decide +kernel
theorem dX1_list_46 : decode cX1_list 46 = .ok (.iload_n 2, 1) := by decide +kernel
theorem dX1_list_47 : decode cX1_list 47 = .ok (.imul, 1) := by decide +kernel
theorem dX1_list_48 : decode cX1_list 48 = .ok (.iadd, 1) := by decide +kernel
theorem dX1_list_49 : decode cX1_list 49 = .ok (.invokevirtual 30, 3) := by decide +kernel
theorem dX1_list_52 : decode cX1_list 52 = .ok (.iinc 2 1, 3) := by decide +kernel
theorem dX1_list_55 : decode cX1_list 55 = .ok (.goto (-22), 3) := by decide +kernel
theorem dX1_list_58 : decode cX1_list 58 = .ok (.iconst 0, 1) := by decide +kernel
theorem dX1_list_59 : decode cX1_list 59 = .ok (.istore_n 2, 1) := by decide +kernel
theorem dX1_list_60 : decode cX1_list 60 = .ok (.iload_n 2, 1) := by decide +kernel
theorem dX1_list_61 : decode cX1_list 61 = .ok (.aload_n 1, 1) := by decide +kernel
theorem dX1_list_62 : decode cX1_list 62 = .ok (.getfield 25, 3) := by decide +kernel
theorem dX1_list_65 : decode cX1_list 65 = .ok (.if_icmp .ge 39, 3) := by decide +kernel
theorem dX1_list_68 : decode cX1_list 68 = .ok (.iconst 0, 1) := by decide +kernel
theorem dX1_list_69 : decode cX1_list 69 = .ok (.istore_n 3, 1) := by decide +kernel
theorem dX1_list_70 : decode cX1_list 70 = .ok (.iload_n 3, 1) := by decide +kernel
theorem dX1_list_71 : decode cX1_list 71 = .ok (.aload_n 1, 1) := by decide +kernel
theorem dX1_list_72 : decode cX1_list 72 = .ok (.iload_n 2, 1) := by decide +kernel
theorem dX1_list_73 : decode cX1_list 73 = .ok (.invokevirtual 34, 3) := by decide +kernel
theorem dX1_list_76 : decode cX1_list 76 = .ok (.if_icmp .ge 22, 3) := by decide +kernel
theorem dX1_list_79 : decode cX1_list 79 = .ok (.aload_n 0, 1) := by decide +kernel
theorem dX1_list_80 : decode cX1_list 80 = .ok (.sipush 300, 3) := by decide +kernel
theorem dX1_list_83 : decode cX1_list 83 = .ok (.iconst 2, 1) := by decide +kernel
theorem dX1_list_84 : decode cX1_list 84 = .ok (.iload_n 2, 1) := by decide +kernel
theorem dX1_list_85 : decode cX1_list 85 = .ok (.imul, 1) := by decide +kernel
theorem dX1_list_86 : decode cX1_list 86 = .ok (.iadd, 1) := by decide +kernel
theorem dX1_list_87 : decode cX1_list 87 = .ok (.iload_n 3, 1) := by decide +kernel
theorem dX1_list_88 : decode cX1_list 88 = .ok (.iadd, 1) := by decide +kernel
theorem dX1_list_89 : decode cX1_list 89 = .ok (.invokevirtual 30, 3) := by decide +kernel
theorem dX1_list_92 : decode cX1_list 92 = .ok (.iinc 3 1, 3) := by decide +kernel
theorem dX1_list_95 : decode cX1_list 95 = .ok (.goto (-25), 3) := by decide +kernel
theorem dX1_list_98 : decode cX1_list 98 = .ok (.iinc 2 1, 3) := by decide +kernel
theorem dX1_list_101 : decode cX1_list 101 = .ok (.goto (-41), 3) := by decide +kernel
theorem dX1_list_104 : decode cX1_list 104 = .ok (.return_, 1) := by decide +kernel
theorem dX1_add_0 : decode cX1_add 0 = .ok (.aload_n 0, 1) := by decide +kernel
theorem dX1_add_1 : decode cX1_add 1 = .ok (.getfield 21, 3) := by decide +kernel
theorem dX1_add_4 : decode cX1_add 4 = .ok (.bipush 40, 2) := by decide +kernel
theorem dX1_add_6 : decode cX1_add 6 = .ok (.if_icmp .ge 23, 3) := by decide +kernel
theorem dX1_add_9 : decode cX1_add 9 = .ok (.aload_n 0, 1) := by decide +kernel
theorem dX1_add_10 : decode cX1_add 10 = .ok (.getfield 9, 3) := by decide +kernel
theorem dX1_add_13 : decode cX1_add 13 = .ok (.aload_n 0, 1) := by decide +kernel
theorem dX1_add_14 : decode cX1_add 14 = .ok (.getfield 21, 3) := by decide +kernel
theorem dX1_add_17 : decode cX1_add 17 = .ok (.iload_n 1, 1) := by decide +kernel
theorem dX1_add_18 : decode cX1_add 18 = .ok (.iastore, 1) := by decide +kernel
theorem dX1_add_19 : decode cX1_add 19 = .ok (.aload_n 0, 1) := by decide +kernel
theorem dX1_add_20 : decode cX1_add 20 = .ok (.dup, 1) := by decide +kernel
theorem dX1_add_21 : decode cX1_add 21 = .ok (.getfield 21, 3) := by decide +kernel
theorem dX1_add_24 : decode cX1_add 24 = .ok (.iconst 1, 1) := by decide +kernel
theorem dX1_add_25 : decode cX1_add 25 = .ok (.iadd, 1) := by decide +kernel
theorem dX1_add_26 : decode cX1_add 26 = .ok (.putfield 21, 3) := by decide +kernel
theorem dX1_add_29 : decode cX1_add 29 = .ok (.return_, 1) := by decide +kernel
theorem dX1_indexOf_0 : decode cX1_indexOf 0 = .ok (.iconst 0, 1) := by decide +kernel
theorem dX1_indexOf_1 : decode cX1_indexOf 1 = .ok (.istore_n 2, 1) := by decide +kernel
theorem dX1_indexOf_2 : decode cX1_indexOf 2 = .ok (.iload_n 2, 1) := by decide +kernel
theorem dX1_indexOf_3 : decode cX1_indexOf 3 = .ok (.aload_n 0, 1) := by decide +kernel
theorem dX1_indexOf_4 : decode cX1_indexOf 4 = .ok (.getfield 21, 3) := by decide +kernel
theorem dX1_indexOf_7 : decode cX1_indexOf 7 = .ok (.if_icmp .ge 21, 3) := by decide +kernel
theorem dX1_indexOf_10 : decode cX1_indexOf 10 = .ok (.aload_n 0, 1) := by decide +kernel
theorem dX1_indexOf_11 : decode cX1_indexOf 11 = .ok (.getfield 9, 3) := by decide +kernel
theorem dX1_indexOf_14 : decode cX1_indexOf 14 = .ok (.iload_n 2, 1) := by decide +kernel
theorem dX1_indexOf_15 : decode cX1_indexOf 15 = .ok (.iaload, 1) := by decide +kernel
theorem dX1_indexOf_16 : decode cX1_indexOf 16 = .ok (.iload_n 1, 1) := by decide +kernel
theorem dX1_indexOf_17 : decode cX1_indexOf 17 = .ok (.if_icmp .ne 5, 3) := by decide +kernel
theorem dX1_indexOf_20 : decode cX1_indexOf 20 = .ok (.iload_n 2, 1) := by decide +kernel
theorem dX1_indexOf_21 : decode cX1_indexOf 21 = .ok (.ireturn, 1) := by decide +kernel
theorem dX1_indexOf_22 : decode cX1_indexOf 22 = .ok (.iinc 2 1, 3) := by decide +kernel
theorem dX1_indexOf_25 : decode cX1_indexOf 25 = .ok (.goto (-23), 3) := by decide +kernel
theorem dX1_indexOf_28 : decode cX1_indexOf 28 = .ok (.iconst (-1), 1) := by decide +kernel
theorem dX1_indexOf_29 : decode cX1_indexOf 29 = .ok (.ireturn, 1) := by decide +kernel
theorem dX2_init_0 : decode cX2_init 0 = .ok (.aload_n 0, 1) := by decide +kernel
theorem dX2_init_1 : decode cX2_init 1 = .ok (.invokespecial 3, 3) := by decide +kernel
theorem dX2_init_4 : decode cX2_init 4 = .ok (.aload_n 0, 1) := by decide +kernel
theorem dX2_init_5 : decode cX2_init 5 = .ok (.bipush 12, 2) := by decide +kernel
theorem dX2_init_7 : decode cX2_init 7 = .ok (.newarray .int, 2) := by decide +kernel
theorem dX2_init_9 : decode cX2_init 9 = .ok (.putfield 9, 3) := by decide +kernel
theorem dX2_init_12 : decode cX2_init 12 = .ok (.aload_n 0, 1) := by decide +kernel
theorem dX2_init_13 : decode cX2_init 13 = .ok (.bipush 12, 2) := by decide +kernel
theorem dX2_init_15 : decode cX2_init 15 = .ok (.newarray .int, 2) := by decide +kernel
theorem dX2_init_17 : decode cX2_init 17 = .ok (.putfield 15, 3) := by decide +kernel
theorem dX2_init_20 : decode cX2_init 20 = .ok (.return_, 1) := by decide +kernel
theorem dX2_clear_0 : decode cX2_clear 0 = .ok (.aload_n 0, 1) := by decide +kernel
theorem dX2_clear_1 : decode cX2_clear 1 = .ok (.getfield 9, 3) := by decide +kernel
theorem dX2_clear_4 : decode cX2_clear 4 = .ok (.iconst 0, 1) := by decide +kernel
theorem dX2_clear_5 : decode cX2_clear 5 = .ok (.invokestatic 18, 3) := by decide +kernel
theorem dX2_clear_8 : decode cX2_clear 8 = .ok (.aload_n 0, 1) := by decide +kernel
theorem dX2_clear_9 : decode cX2_clear 9 = .ok (.getfield 15, 3) := by decide +kernel
theorem dX2_clear_12 : decode cX2_clear 12 = .ok (.iconst 0, 1) := by decide +kernel
theorem dX2_clear_13 : decode cX2_clear 13 = .ok (.invokestatic 18, 3) := by decide +kernel
theorem dX2_clear_16 : decode cX2_clear 16 = .ok (.return_, 1) := by decide +kernel
theorem dX2_add_0 : decode cX2_add 0 = .ok (.aload_n 0, 1) := by decide +kernel
theorem dX2_add_1 : decode cX2_add 1 = .ok (.getfield 15, 3) := by decide +kernel
theorem dX2_add_4 : decode cX2_add 4 = .ok (.iload_n 2, 1) := by decide +kernel
theorem dX2_add_5 : decode cX2_add 5 = .ok (.iaload, 1) := by decide +kernel
theorem dX2_add_6 : decode cX2_add 6 = .ok (.istore 4, 2) := by decide +kernel
theorem dX2_add_8 : decode cX2_add 8 = .ok (.aload_n 0, 1) := by decide +kernel
theorem dX2_add_9 : decode cX2_add 9 = .ok (.getfield 9, 3) := by decide +kernel
theorem dX2_add_12 : decode cX2_add 12 = .ok (.iload_n 2, 1) := by decide +kernel
theorem dX2_add_13 : decode cX2_add 13 = .ok (.dup2, 1) := by decide +kernel
theorem dX2_add_14 : decode cX2_add 14 = .ok (.iaload, 1) := by decide +kernel
theorem dX2_add_15 : decode cX2_add 15 = .ok (.iload_n 3, 1) := by decide +kernel
theorem dX2_add_16 : decode cX2_add 16 = .ok (.iload_n 1, 1) := by decide +kernel
theorem dX2_add_17 : decode cX2_add 17 = .ok (.ishl, 1) := by decide +kernel
theorem dX2_add_18 : decode cX2_add 18 = .ok (.ior, 1) := by decide +kernel
theorem dX2_add_19 : decode cX2_add 19 = .ok (.iastore, 1) := by decide +kernel
theorem dX2_add_20 : decode cX2_add 20 = .ok (.aload_n 0, 1) := by decide +kernel
theorem dX2_add_21 : decode cX2_add 21 = .ok (.getfield 15, 3) := by decide +kernel
theorem dX2_add_24 : decode cX2_add 24 = .ok (.iload_n 2, 1) := by decide +kernel
theorem dX2_add_25 : decode cX2_add 25 = .ok (.iconst 2, 1) := by decide +kernel
theorem dX2_add_26 : decode cX2_add 26 = .ok (.iload 4, 2) := by decide +kernel
theorem dX2_add_28 : decode cX2_add 28 = .ok (.imul, 1) := by decide +kernel
theorem dX2_add_29 : decode cX2_add 29 = .ok (.iload_n 3, 1) := by decide +kernel
theorem dX2_add_30 : decode cX2_add 30 = .ok (.iadd, 1) := by decide +kernel
theorem dX2_add_31 : decode cX2_add 31 = .ok (.iload 4, 2) := by decide +kernel
theorem dX2_add_33 : decode cX2_add 33 = .ok (.sipush 128, 3) := by decide +kernel
theorem dX2_add_36 : decode cX2_add 36 = .ok (.if_icmp .lt 8, 3) := by decide +kernel
theorem dX2_add_39 : decode cX2_add 39 = .ok (.bipush 29, 2) := by decide +kernel
theorem dX2_add_41 : decode cX2_add 41 = .ok (.goto 4, 3) := by decide +kernel
theorem dX2_add_44 : decode cX2_add 44 = .ok (.iconst 0, 1) := by decide +kernel
theorem dX2_add_45 : decode cX2_add 45 = .ok (.ixor, 1) := by decide +kernel
theorem dX2_add_46 : decode cX2_add 46 = .ok (.sipush 255, 3) := by decide +kernel
theorem dX2_add_49 : decode cX2_add 49 = .ok (.iand, 1) := by decide +kernel
theorem dX2_add_50 : decode cX2_add 50 = .ok (.iastore, 1) := by decide +kernel
theorem dX2_add_51 : decode cX2_add 51 = .ok (.return_, 1) := by decide +kernel
theorem dX2_isBad_0 : decode cX2_isBad 0 = .ok (.aload_n 0, 1) := by decide +kernel
theorem dX2_isBad_1 : decode cX2_isBad 1 = .ok (.getfield 15, 3) := by decide +kernel
theorem dX2_isBad_4 : decode cX2_isBad 4 = .ok (.iload_n 1, 1) := by decide +kernel
theorem dX2_isBad_5 : decode cX2_isBad 5 = .ok (.iaload, 1) := by decide +kernel
theorem dX2_isBad_6 : decode cX2_isBad 6 = .ok (.aload_n 2, 1) := by decide +kernel
theorem dX2_isBad_7 : decode cX2_isBad 7 = .ok (.getfield 15, 3) := by decide +kernel
theorem dX2_isBad_10 : decode cX2_isBad 10 = .ok (.iload_n 1, 1) := by decide +kernel
theorem dX2_isBad_11 : decode cX2_isBad 11 = .ok (.iaload, 1) := by decide +kernel
theorem dX2_isBad_12 : decode cX2_isBad 12 = .ok (.if_icmp .eq 7, 3) := by decide +kernel
theorem dX2_isBad_15 : decode cX2_isBad 15 = .ok (.iconst 1, 1) := by decide +kernel
theorem dX2_isBad_16 : decode cX2_isBad 16 = .ok (.goto 4, 3) := by decide +kernel
theorem dX2_isBad_19 : decode cX2_isBad 19 = .ok (.iconst 0, 1) := by decide +kernel
theorem dX2_isBad_20 : decode cX2_isBad 20 = .ok (.ireturn, 1) := by decide +kernel
theorem dX2_badNodes_0 : decode cX2_badNodes 0 = .ok (.iconst 0, 1) := by decide +kernel
theorem dX2_badNodes_1 : decode cX2_badNodes 1 = .ok (.istore_n 2, 1) := by decide +kernel
theorem dX2_badNodes_2 : decode cX2_badNodes 2 = .ok (.iconst 0, 1) := by decide +kernel
theorem dX2_badNodes_3 : decode cX2_badNodes 3 = .ok (.istore_n 3, 1) := by decide +kernel
theorem dX2_badNodes_4 : decode cX2_badNodes 4 = .ok (.iload_n 3, 1) := by decide +kernel
theorem dX2_badNodes_5 : decode cX2_badNodes 5 = .ok (.bipush 12, 2) := by decide +kernel
theorem dX2_badNodes_7 : decode cX2_badNodes 7 = .ok (.if_icmp .ge 24, 3) := by decide +kernel
theorem dX2_badNodes_10 : decode cX2_badNodes 10 = .ok (.aload_n 0, 1) := by decide +kernel
theorem dX2_badNodes_11 : decode cX2_badNodes 11 = .ok (.iload_n 3, 1) := by decide +kernel
theorem dX2_badNodes_12 : decode cX2_badNodes 12 = .ok (.aload_n 1, 1) := by decide +kernel
theorem dX2_badNodes_13 : decode cX2_badNodes 13 = .ok (.invokevirtual 24, 3) := by decide +kernel
theorem dX2_badNodes_16 : decode cX2_badNodes 16 = .ok (.ifCond .eq 9, 3) := by decide +kernel
theorem dX2_badNodes_19 : decode cX2_badNodes 19 = .ok (.iload_n 2, 1) := by decide +kernel
theorem dX2_badNodes_20 : decode cX2_badNodes 20 = .ok (.iconst 1, 1) := by decide +kernel
theorem dX2_badNodes_21 : decode cX2_badNodes 21 = .ok (.iload_n 3, 1) := by decide +kernel
theorem dX2_badNodes_22 : decode cX2_badNodes 22 = .ok (.ishl, 1) := by decide +kernel
theorem dX2_badNodes_23 : decode cX2_badNodes 23 = .ok (.ior, 1) := by decide +kernel
theorem dX2_badNodes_24 : decode cX2_badNodes 24 = .ok (.istore_n 2, 1) := by decide +kernel
theorem dX2_badNodes_25 : decode cX2_badNodes 25 = .ok (.iinc 3 1, 3) := by decide +kernel
theorem dX2_badNodes_28 : decode cX2_badNodes 28 = .ok (.goto (-24), 3) := by decide +kernel
theorem dX2_badNodes_31 : decode cX2_badNodes 31 = .ok (.iload_n 2, 1) := by decide +kernel
theorem dX2_badNodes_32 : decode cX2_badNodes 32 = .ok (.ireturn, 1) := by decide +kernel
theorem dX2_unlikeNodes_0 : decode cX2_unlikeNodes 0 = .ok (.iconst 0, 1) := by decide +kernel
theorem dX2_unlikeNodes_1 : decode cX2_unlikeNodes 1 = .ok (.istore_n 2, 1) := by decide +kernel
theorem dX2_unlikeNodes_2 : decode cX2_unlikeNodes 2 = .ok (.iconst 0, 1) := by decide +kernel
theorem dX2_unlikeNodes_3 : decode cX2_unlikeNodes 3 = .ok (.istore_n 3, 1) := by decide +kernel
theorem dX2_unlikeNodes_4 : decode cX2_unlikeNodes 4 = .ok (.iload_n 3, 1) := by decide +kernel
theorem dX2_unlikeNodes_5 : decode cX2_unlikeNodes 5 = .ok (.bipush 12, 2) := by decide +kernel
theorem dX2_unlikeNodes_7 : decode cX2_unlikeNodes 7 = .ok (.if_icmp .ge 30, 3) := by decide +kernel
theorem dX2_unlikeNodes_10 : decode cX2_unlikeNodes 10 = .ok (.aload_n 0, 1) := by decide +kernel
theorem dX2_unlikeNodes_11 : decode cX2_unlikeNodes 11 = .ok (.getfield 9, 3) := by decide +kernel
theorem dX2_unlikeNodes_14 : decode cX2_unlikeNodes 14 = .ok (.iload_n 3, 1) := by decide +kernel
theorem dX2_unlikeNodes_15 : decode cX2_unlikeNodes 15 = .ok (.iaload, 1) := by decide +kernel
theorem dX2_unlikeNodes_16 : decode cX2_unlikeNodes 16 = .ok (.aload_n 1, 1) := by decide +kernel
theorem dX2_unlikeNodes_17 : decode cX2_unlikeNodes 17 = .ok (.getfield 9, 3) := by decide +kernel
theorem dX2_unlikeNodes_20 : decode cX2_unlikeNodes 20 = .ok (.iload_n 3, 1) := by decide +kernel
theorem dX2_unlikeNodes_21 : decode cX2_unlikeNodes 21 = .ok (.iaload, 1) := by decide +kernel
theorem dX2_unlikeNodes_22 : decode cX2_unlikeNodes 22 = .ok (.if_icmp .eq 9, 3) := by decide +kernel
theorem dX2_unlikeNodes_25 : decode cX2_unlikeNodes 25 = .ok (.iload_n 2, 1) := by decide +kernel
theorem dX2_unlikeNodes_26 : decode cX2_unlikeNodes 26 = .ok (.iconst 1, 1) := by decide +kernel
theorem dX2_unlikeNodes_27 : decode cX2_unlikeNodes 27 = .ok (.iload_n 3, 1) := by decide +kernel
theorem dX2_unlikeNodes_28 : decode cX2_unlikeNodes 28 = .ok (.ishl, 1) := by decide +kernel
theorem dX2_unlikeNodes_29 : decode cX2_unlikeNodes 29 = .ok (.ior, 1) := by decide +kernel
theorem dX2_unlikeNodes_30 : decode cX2_unlikeNodes 30 = .ok (.istore_n 2, 1) := by decide +kernel
theorem dX2_unlikeNodes_31 : decode cX2_unlikeNodes 31 = .ok (.iinc 3 1, 3) := by decide +kernel
theorem dX2_unlikeNodes_34 : decode cX2_unlikeNodes 34 = .ok (.goto (-30), 3) := by decide +kernel
theorem dX2_unlikeNodes_37 : decode cX2_unlikeNodes 37 = .ok (.iload_n 2, 1) := by decide +kernel
theorem dX2_unlikeNodes_38 : decode cX2_unlikeNodes 38 = .ok (.ireturn, 1) := by decide +kernel
theorem dX2_firstUnlike_0 : decode cX2_firstUnlike 0 = .ok (.aload_n 0, 1) := by decide +kernel
theorem dX2_firstUnlike_1 : decode cX2_firstUnlike 1 = .ok (.getfield 9, 3) := by decide +kernel
theorem dX2_firstUnlike_4 : decode cX2_firstUnlike 4 = .ok (.iload_n 1, 1) := by decide +kernel
theorem dX2_firstUnlike_5 : decode cX2_firstUnlike 5 = .ok (.iaload, 1) := by decide +kernel
theorem dX2_firstUnlike_6 : decode cX2_firstUnlike 6 = .ok (.aload_n 2, 1) := by decide +kernel
theorem dX2_firstUnlike_7 : decode cX2_firstUnlike 7 = .ok (.getfield 9, 3) := by decide +kernel
theorem dX2_firstUnlike_10 : decode cX2_firstUnlike 10 = .ok (.iload_n 1, 1) := by decide +kernel
theorem dX2_firstUnlike_11 : decode cX2_firstUnlike 11 = .ok (.iaload, 1) := by decide +kernel
theorem dX2_firstUnlike_12 : decode cX2_firstUnlike 12 = .ok (.ixor, 1) := by decide +kernel
theorem dX2_firstUnlike_13 : decode cX2_firstUnlike 13 = .ok (.istore_n 3, 1) := by decide +kernel
theorem dX2_firstUnlike_14 : decode cX2_firstUnlike 14 = .ok (.iconst 0, 1) := by decide +kernel
theorem dX2_firstUnlike_15 : decode cX2_firstUnlike 15 = .ok (.istore 4, 2) := by decide +kernel
theorem dX2_firstUnlike_17 : decode cX2_firstUnlike 17 = .ok (.iload 4, 2) := by decide +kernel
theorem dX2_firstUnlike_19 : decode cX2_firstUnlike 19 = .ok (.bipush 16, 2) := by decide +kernel
theorem dX2_firstUnlike_21 : decode cX2_firstUnlike 21 = .ok (.if_icmp .ge 21, 3) := by decide +kernel
theorem dX2_firstUnlike_24 : decode cX2_firstUnlike 24 = .ok (.iload_n 3, 1) := by decide +kernel
theorem dX2_firstUnlike_25 : decode cX2_firstUnlike 25 = .ok (.iload 4, 2) := by decide +kernel
theorem dX2_firstUnlike_27 : decode cX2_firstUnlike 27 = .ok (.ishr, 1) := by decide +kernel
theorem dX2_firstUnlike_28 : decode cX2_firstUnlike 28 = .ok (.iconst 1, 1) := by decide +kernel
theorem dX2_firstUnlike_29 : decode cX2_firstUnlike 29 = .ok (.iand, 1) := by decide +kernel
theorem dX2_firstUnlike_30 : decode cX2_firstUnlike 30 = .ok (.ifCond .eq 6, 3) := by decide +kernel
theorem dX2_firstUnlike_33 : decode cX2_firstUnlike 33 = .ok (.iload 4, 2) := by decide +kernel
theorem dX2_firstUnlike_35 : decode cX2_firstUnlike 35 = .ok (.ireturn, 1) := by decide +kernel
theorem dX2_firstUnlike_36 : decode cX2_firstUnlike 36 = .ok (.iinc 4 1, 3) := by decide +kernel
theorem dX2_firstUnlike_39 : decode cX2_firstUnlike 39 = .ok (.goto (-22), 3) := by decide +kernel
theorem dX2_firstUnlike_42 : decode cX2_firstUnlike 42 = .ok (.iconst (-1), 1) := by decide +kernel
theorem dX2_firstUnlike_43 : decode cX2_firstUnlike 43 = .ok (.ireturn, 1) := by decide +kernel
theorem dX3_init_0 : decode cX3_init 0 = .ok (.aload_n 0, 1) := by decide +kernel
theorem dX3_init_1 : decode cX3_init 1 = .ok (.invokespecial 3, 3) := by decide +kernel
theorem dX3_init_4 : decode cX3_init 4 = .ok (.aload_n 0, 1) := by decide +kernel
theorem dX3_init_5 : decode cX3_init 5 = .ok (.bipush 40, 2) := by decide +kernel
theorem dX3_init_7 : decode cX3_init 7 = .ok (.newarray .int, 2) := by decide +kernel
theorem dX3_init_9 : decode cX3_init 9 = .ok (.putfield 9, 3) := by decide +kernel
theorem dX3_init_12 : decode cX3_init 12 = .ok (.aload_n 0, 1) := by decide +kernel
theorem dX3_init_13 : decode cX3_init 13 = .ok (.iconst 0, 1) := by decide +kernel
theorem dX3_init_14 : decode cX3_init 14 = .ok (.putfield 15, 3) := by decide +kernel
theorem dX3_init_17 : decode cX3_init 17 = .ok (.return_, 1) := by decide +kernel
theorem dX3_append_0 : decode cX3_append 0 = .ok (.aload_n 0, 1) := by decide +kernel
theorem dX3_append_1 : decode cX3_append 1 = .ok (.getfield 15, 3) := by decide +kernel
theorem dX3_append_4 : decode cX3_append 4 = .ok (.bipush 40, 2) := by decide +kernel
theorem dX3_append_6 : decode cX3_append 6 = .ok (.if_icmp .ge 23, 3) := by decide +kernel
theorem dX3_append_9 : decode cX3_append 9 = .ok (.aload_n 0, 1) := by decide +kernel
theorem dX3_append_10 : decode cX3_append 10 = .ok (.getfield 9, 3) := by decide +kernel
theorem dX3_append_13 : decode cX3_append 13 = .ok (.aload_n 0, 1) := by decide +kernel
theorem dX3_append_14 : decode cX3_append 14 = .ok (.getfield 15, 3) := by decide +kernel
theorem dX3_append_17 : decode cX3_append 17 = .ok (.iload_n 1, 1) := by decide +kernel
theorem dX3_append_18 : decode cX3_append 18 = .ok (.iastore, 1) := by decide +kernel
theorem dX3_append_19 : decode cX3_append 19 = .ok (.aload_n 0, 1) := by decide +kernel
theorem dX3_append_20 : decode cX3_append 20 = .ok (.dup, 1) := by decide +kernel
theorem dX3_append_21 : decode cX3_append 21 = .ok (.getfield 15, 3) := by decide +kernel
theorem dX3_append_24 : decode cX3_append 24 = .ok (.iconst 1, 1) := by decide +kernel
theorem dX3_append_25 : decode cX3_append 25 = .ok (.iadd, 1) := by decide +kernel
theorem dX3_append_26 : decode cX3_append 26 = .ok (.putfield 15, 3) := by decide +kernel
theorem dX3_append_29 : decode cX3_append 29 = .ok (.return_, 1) := by decide +kernel
theorem dX3_clear_0 : decode cX3_clear 0 = .ok (.aload_n 0, 1) := by decide +kernel
theorem dX3_clear_1 : decode cX3_clear 1 = .ok (.iconst 0, 1) := by decide +kernel
theorem dX3_clear_2 : decode cX3_clear 2 = .ok (.putfield 15, 3) := by decide +kernel
theorem dX3_clear_5 : decode cX3_clear 5 = .ok (.return_, 1) := by decide +kernel
theorem dX4_init_0 : decode cX4_init 0 = .ok (.aload_n 0, 1) := by decide +kernel
theorem dX4_init_1 : decode cX4_init 1 = .ok (.invokespecial 3, 3) := by decide +kernel
theorem dX4_init_4 : decode cX4_init 4 = .ok (.aload_n 0, 1) := by decide +kernel
theorem dX4_init_5 : decode cX4_init 5 = .ok (.bipush 12, 2) := by decide +kernel
theorem dX4_init_7 : decode cX4_init 7 = .ok (.newarray .int, 2) := by decide +kernel
theorem dX4_init_9 : decode cX4_init 9 = .ok (.putfield 9, 3) := by decide +kernel
theorem dX4_init_12 : decode cX4_init 12 = .ok (.aload_n 0, 1) := by decide +kernel
theorem dX4_init_13 : decode cX4_init 13 = .ok (.iconst 0, 1) := by decide +kernel
theorem dX4_init_14 : decode cX4_init 14 = .ok (.putfield 15, 3) := by decide +kernel
theorem dX4_init_17 : decode cX4_init 17 = .ok (.aload_n 0, 1) := by decide +kernel
theorem dX4_init_18 : decode cX4_init 18 = .ok (.iconst 0, 1) := by decide +kernel
theorem dX4_init_19 : decode cX4_init 19 = .ok (.putfield 19, 3) := by decide +kernel
theorem dX4_init_22 : decode cX4_init 22 = .ok (.aload_n 0, 1) := by decide +kernel
theorem dX4_init_23 : decode cX4_init 23 = .ok (.getfield 9, 3) := by decide +kernel
theorem dX4_init_26 : decode cX4_init 26 = .ok (.iconst (-1), 1) := by decide +kernel
theorem dX4_init_27 : decode cX4_init 27 = .ok (.invokestatic 22, 3) := by decide +kernel
theorem dX4_init_30 : decode cX4_init 30 = .ok (.return_, 1) := by decide +kernel
theorem dX4_add_0 : decode cX4_add 0 = .ok (.aload_n 0, 1) := by decide +kernel
theorem dX4_add_1 : decode cX4_add 1 = .ok (.getfield 9, 3) := by decide +kernel
theorem dX4_add_4 : decode cX4_add 4 = .ok (.iload_n 1, 1) := by decide +kernel
theorem dX4_add_5 : decode cX4_add 5 = .ok (.iload_n 2, 1) := by decide +kernel
theorem dX4_add_6 : decode cX4_add 6 = .ok (.ifCond .eq 7, 3) := by decide +kernel
theorem dX4_add_9 : decode cX4_add 9 = .ok (.iconst 1, 1) := by decide +kernel
theorem dX4_add_10 : decode cX4_add 10 = .ok (.goto 4, 3) := by decide +kernel
theorem dX4_add_13 : decode cX4_add 13 = .ok (.iconst 0, 1) := by decide +kernel
theorem dX4_add_14 : decode cX4_add 14 = .ok (.iastore, 1) := by decide +kernel
theorem dX4_add_15 : decode cX4_add 15 = .ok (.aload_n 0, 1) := by decide +kernel
theorem dX4_add_16 : decode cX4_add 16 = .ok (.dup, 1) := by decide +kernel
theorem dX4_add_17 : decode cX4_add 17 = .ok (.getfield 15, 3) := by decide +kernel
theorem dX4_add_20 : decode cX4_add 20 = .ok (.iconst 1, 1) := by decide +kernel
theorem dX4_add_21 : decode cX4_add 21 = .ok (.iadd, 1) := by decide +kernel
theorem dX4_add_22 : decode cX4_add 22 = .ok (.putfield 15, 3) := by decide +kernel
theorem dX4_add_25 : decode cX4_add 25 = .ok (.aload_n 0, 1) := by decide +kernel
theorem dX4_add_26 : decode cX4_add 26 = .ok (.dup, 1) := by decide +kernel
theorem dX4_add_27 : decode cX4_add 27 = .ok (.getfield 19, 3) := by decide +kernel
theorem dX4_add_30 : decode cX4_add 30 = .ok (.iconst 1, 1) := by decide +kernel
theorem dX4_add_31 : decode cX4_add 31 = .ok (.iadd, 1) := by decide +kernel
theorem dX4_add_32 : decode cX4_add 32 = .ok (.putfield 19, 3) := by decide +kernel
theorem dX4_add_35 : decode cX4_add 35 = .ok (.return_, 1) := by decide +kernel
theorem dX4_clear_0 : decode cX4_clear 0 = .ok (.aload_n 0, 1) := by decide +kernel
theorem dX4_clear_1 : decode cX4_clear 1 = .ok (.getfield 9, 3) := by decide +kernel
theorem dX4_clear_4 : decode cX4_clear 4 = .ok (.iconst (-1), 1) := by decide +kernel
theorem dX4_clear_5 : decode cX4_clear 5 = .ok (.invokestatic 22, 3) := by decide +kernel
theorem dX4_clear_8 : decode cX4_clear 8 = .ok (.aload_n 0, 1) := by decide +kernel
theorem dX4_clear_9 : decode cX4_clear 9 = .ok (.iconst 0, 1) := by decide +kernel
theorem dX4_clear_10 : decode cX4_clear 10 = .ok (.putfield 15, 3) := by decide +kernel
theorem dX4_clear_13 : decode cX4_clear 13 = .ok (.return_, 1) := by decide +kernel
theorem dX5_init_0 : decode cX5_init 0 = .ok (.aload_n 0, 1) := by decide +kernel
theorem dX5_init_1 : decode cX5_init 1 = .ok (.invokespecial 3, 3) := by decide +kernel
theorem dX5_init_4 : decode cX5_init 4 = .ok (.aload_n 0, 1) := by decide +kernel
theorem dX5_init_5 : decode cX5_init 5 = .ok (.bipush 12, 2) := by decide +kernel
theorem dX5_init_7 : decode cX5_init 7 = .ok (.newarray .int, 2) := by decide +kernel
theorem dX5_init_9 : decode cX5_init 9 = .ok (.putfield 9, 3) := by decide +kernel
theorem dX5_init_12 : decode cX5_init 12 = .ok (.aload_n 0, 1) := by decide +kernel
theorem dX5_init_13 : decode cX5_init 13 = .ok (.bipush 12, 2) := by decide +kernel
theorem dX5_init_15 : decode cX5_init 15 = .ok (.newarray .int, 2) := by decide +kernel
theorem dX5_init_17 : decode cX5_init 17 = .ok (.putfield 15, 3) := by decide +kernel
theorem dX5_init_20 : decode cX5_init 20 = .ok (.aload_n 0, 1) := by decide +kernel
theorem dX5_init_21 : decode cX5_init 21 = .ok (.iconst 0, 1) := by decide +kernel
theorem dX5_init_22 : decode cX5_init 22 = .ok (.putfield 18, 3) := by decide +kernel
theorem dX5_init_25 : decode cX5_init 25 = .ok (.aload_n 0, 1) := by decide +kernel
theorem dX5_init_26 : decode cX5_init 26 = .ok (.aload_n 1, 1) := by decide +kernel
theorem dX5_init_27 : decode cX5_init 27 = .ok (.putfield 22, 3) := by decide +kernel
theorem dX5_init_30 : decode cX5_init 30 = .ok (.aload_n 0, 1) := by decide +kernel
theorem dX5_init_31 : decode cX5_init 31 = .ok (.aload_n 2, 1) := by decide +kernel
theorem dX5_init_32 : decode cX5_init 32 = .ok (.putfield 26, 3) := by decide +kernel
theorem dX5_init_35 : decode cX5_init 35 = .ok (.return_, 1) := by decide +kernel
theorem dX5_run_0 : decode cX5_run 0 = .ok (.aload_n 0, 1) := by decide +kernel
theorem dX5_run_1 : decode cX5_run 1 = .ok (.iload_n 1, 1) := by decide +kernel
theorem dX5_run_2 : decode cX5_run 2 = .ok (.putfield 18, 3) := by decide +kernel
theorem dX5_run_5 : decode cX5_run 5 = .ok (.aload_n 2, 1) := by decide +kernel
theorem dX5_run_6 : decode cX5_run 6 = .ok (.invokevirtual 30, 3) := by decide +kernel
theorem dX5_run_9 : decode cX5_run 9 = .ok (.iconst 0, 1) := by decide +kernel
theorem dX5_run_10 : decode cX5_run 10 = .ok (.istore_n 3, 1) := by decide +kernel
theorem dX5_run_11 : decode cX5_run 11 = .ok (.iload_n 3, 1) := by decide +kernel
theorem dX5_run_12 : decode cX5_run 12 = .ok (.aload_n 0, 1) := by decide +kernel
theorem dX5_run_13 : decode cX5_run 13 = .ok (.getfield 26, 3) := by decide +kernel
theorem dX5_run_16 : decode cX5_run 16 = .ok (.getfield 35, 3) := by decide +kernel
theorem dX5_run_19 : decode cX5_run 19 = .ok (.if_icmp .ge 71, 3) := by decide +kernel
theorem dX5_run_22 : decode cX5_run 22 = .ok (.aload_n 0, 1) := by decide +kernel
theorem dX5_run_23 : decode cX5_run 23 = .ok (.getfield 9, 3) := by decide +kernel
theorem dX5_run_26 : decode cX5_run 26 = .ok (.iconst 0, 1) := by decide +kernel
theorem dX5_run_27 : decode cX5_run 27 = .ok (.aload_n 0, 1) := by decide +kernel
theorem dX5_run_28 : decode cX5_run 28 = .ok (.getfield 15, 3) := by decide +kernel
theorem dX5_run_31 : decode cX5_run 31 = .ok (.iconst 0, 1) := by decide +kernel
theorem dX5_run_32 : decode cX5_run 32 = .ok (.bipush 12, 2) := by decide +kernel
theorem dX5_run_34 : decode cX5_run 34 = .ok (.invokestatic 40, 3) := by decide +kernel
theorem dX5_run_37 : decode cX5_run 37 = .ok (.aload_n 0, 1) := by decide +kernel
theorem dX5_run_38 : decode cX5_run 38 = .ok (.iconst 1, 1) := by decide +kernel
theorem dX5_run_39 : decode cX5_run 39 = .ok (.iload_n 3, 1) := by decide +kernel
theorem dX5_run_40 : decode cX5_run 40 = .ok (.invokevirtual 46, 3) := by decide +kernel
theorem dX5_run_43 : decode cX5_run 43 = .ok (.aload_n 0, 1) := by decide +kernel
theorem dX5_run_44 : decode cX5_run 44 = .ok (.iconst 0, 1) := by decide +kernel
theorem dX5_run_45 : decode cX5_run 45 = .ok (.iload_n 3, 1) := by decide +kernel
theorem dX5_run_46 : decode cX5_run 46 = .ok (.invokevirtual 46, 3) := by decide +kernel
theorem dX5_run_49 : decode cX5_run 49 = .ok (.iconst 0, 1) := by decide +kernel
theorem dX5_run_50 : decode cX5_run 50 = .ok (.istore 4, 2) := by decide +kernel
theorem dX5_run_52 : decode cX5_run 52 = .ok (.iload 4, 2) := by decide +kernel
theorem dX5_run_54 : decode cX5_run 54 = .ok (.aload_n 0, 1) := by decide +kernel
theorem dX5_run_55 : decode cX5_run 55 = .ok (.getfield 22, 3) := by decide +kernel
theorem dX5_run_58 : decode cX5_run 58 = .ok (.getfield 50, 3) := by decide +kernel
theorem dX5_run_61 : decode cX5_run 61 = .ok (.if_icmp .ge 23, 3) := by decide +kernel
theorem dX5_run_64 : decode cX5_run 64 = .ok (.aload_n 2, 1) := by decide +kernel
theorem dX5_run_65 : decode cX5_run 65 = .ok (.iload_n 3, 1) := by decide +kernel
theorem dX5_run_66 : decode cX5_run 66 = .ok (.iload 4, 2) := by decide +kernel
theorem dX5_run_68 : decode cX5_run 68 = .ok (.aload_n 0, 1) := by decide +kernel
theorem dX5_run_69 : decode cX5_run 69 = .ok (.getfield 9, 3) := by decide +kernel
theorem dX5_run_72 : decode cX5_run 72 = .ok (.iload 4, 2) := by decide +kernel
theorem dX5_run_74 : decode cX5_run 74 = .ok (.iaload, 1) := by decide +kernel
theorem dX5_run_75 : decode cX5_run 75 = .ok (.invokevirtual 55, 3) := by decide +kernel
theorem dX5_run_78 : decode cX5_run 78 = .ok (.iinc 4 1, 3) := by decide +kernel
theorem dX5_run_81 : decode cX5_run 81 = .ok (.goto (-29), 3) := by decide +kernel
theorem dX5_run_84 : decode cX5_run 84 = .ok (.iinc 3 1, 3) := by decide +kernel
theorem dX5_run_87 : decode cX5_run 87 = .ok (.goto (-76), 3) := by decide +kernel
theorem dX5_run_90 : decode cX5_run 90 = .ok (.return_, 1) := by decide +kernel
theorem dX5_setNodes_0 : decode cX5_setNodes 0 = .ok (.iconst 0, 1) := by decide +kernel
theorem dX5_setNodes_1 : decode cX5_setNodes 1 = .ok (.istore_n 3, 1) := by decide +kernel
theorem dX5_setNodes_2 : decode cX5_setNodes 2 = .ok (.iload_n 3, 1) := by decide +kernel
theorem dX5_setNodes_3 : decode cX5_setNodes 3 = .ok (.aload_n 0, 1) := by decide +kernel
theorem dX5_setNodes_4 : decode cX5_setNodes 4 = .ok (.getfield 22, 3) := by decide +kernel
theorem dX5_setNodes_7 : decode cX5_setNodes 7 = .ok (.getfield 50, 3) := by decide +kernel
theorem dX5_setNodes_10 : decode cX5_setNodes 10 = .ok (.if_icmp .ge 43, 3) := by decide +kernel
theorem dX5_setNodes_13 : decode cX5_setNodes 13 = .ok (.aload_n 0, 1) := by decide +kernel
theorem dX5_setNodes_14 : decode cX5_setNodes 14 = .ok (.getfield 22, 3) := by decide +kernel
theorem dX5_setNodes_17 : decode cX5_setNodes 17 = .ok (.getfield 59, 3) := by decide +kernel
theorem dX5_setNodes_20 : decode cX5_setNodes 20 = .ok (.iload_n 3, 1) := by decide +kernel
theorem dX5_setNodes_21 : decode cX5_setNodes 21 = .ok (.iaload, 1) := by decide +kernel
theorem dX5_setNodes_22 : decode cX5_setNodes 22 = .ok (.iconst 5, 1) := by decide +kernel
theorem dX5_setNodes_23 : decode cX5_setNodes 23 = .ok (.if_icmp .ne 7, 3) := by decide +kernel
theorem dX5_setNodes_26 : decode cX5_setNodes 26 = .ok (.iconst 1, 1) := by decide +kernel
theorem dX5_setNodes_27 : decode cX5_setNodes 27 = .ok (.goto 4, 3) := by decide +kernel
theorem dX5_setNodes_30 : decode cX5_setNodes 30 = .ok (.iconst 0, 1) := by decide +kernel
theorem dX5_setNodes_31 : decode cX5_setNodes 31 = .ok (.iload_n 1, 1) := by decide +kernel
theorem dX5_setNodes_32 : decode cX5_setNodes 32 = .ok (.if_icmp .ne 15, 3) := by decide +kernel
theorem dX5_setNodes_35 : decode cX5_setNodes 35 = .ok (.aload_n 0, 1) := by decide +kernel
theorem dX5_setNodes_36 : decode cX5_setNodes 36 = .ok (.getfield 9, 3) := by decide +kernel
theorem dX5_setNodes_39 : decode cX5_setNodes 39 = .ok (.iload_n 3, 1) := by decide +kernel
theorem dX5_setNodes_40 : decode cX5_setNodes 40 = .ok (.aload_n 0, 1) := by decide +kernel
theorem dX5_setNodes_41 : decode cX5_setNodes 41 = .ok (.iload_n 3, 1) := by decide +kernel
theorem dX5_setNodes_42 : decode cX5_setNodes 42 = .ok (.iload_n 2, 1) := by decide +kernel
theorem dX5_setNodes_43 : decode cX5_setNodes 43 = .ok (.invokevirtual 62, 3) := by decide +kernel
theorem dX5_setNodes_46 : decode cX5_setNodes 46 = .ok (.iastore, 1) := by decide +kernel
theorem dX5_setNodes_47 : decode cX5_setNodes 47 = .ok (.iinc 3 1, 3) := by decide +kernel
theorem dX5_setNodes_50 : decode cX5_setNodes 50 = .ok (.goto (-48), 3) := by decide +kernel
theorem dX5_setNodes_53 : decode cX5_setNodes 53 = .ok (.return_, 1) := by decide +kernel
theorem dX5_value_0 : decode cX5_value 0 = .ok (.aload_n 0, 1) := by decide +kernel
theorem dX5_value_1 : decode cX5_value 1 = .ok (.getfield 18, 3) := by decide +kernel
theorem dX5_value_4 : decode cX5_value 4 = .ok (.bipush 100, 2) := by decide +kernel
theorem dX5_value_6 : decode cX5_value 6 = .ok (.iconst 2, 1) := by decide +kernel
theorem dX5_value_7 : decode cX5_value 7 = .ok (.iload_n 1, 1) := by decide +kernel
theorem dX5_value_8 : decode cX5_value 8 = .ok (.imul, 1) := by decide +kernel
theorem dX5_value_9 : decode cX5_value 9 = .ok (.iadd, 1) := by decide +kernel
theorem dX5_value_10 : decode cX5_value 10 = .ok (.if_icmp .ne 5, 3) := by decide +kernel
theorem dX5_value_13 : decode cX5_value 13 = .ok (.iconst 0, 1) := by decide +kernel
theorem dX5_value_14 : decode cX5_value 14 = .ok (.ireturn, 1) := by decide +kernel
theorem dX5_value_15 : decode cX5_value 15 = .ok (.aload_n 0, 1) := by decide +kernel
theorem dX5_value_16 : decode cX5_value 16 = .ok (.getfield 18, 3) := by decide +kernel
theorem dX5_value_19 : decode cX5_value 19 = .ok (.sipush 200, 3) := by decide +kernel
theorem dX5_value_22 : decode cX5_value 22 = .ok (.iconst 2, 1) := by decide +kernel
theorem dX5_value_23 : decode cX5_value 23 = .ok (.iload_n 1, 1) := by decide +kernel
theorem dX5_value_24 : decode cX5_value 24 = .ok (.imul, 1) := by decide +kernel
theorem dX5_value_25 : decode cX5_value 25 = .ok (.iadd, 1) := by decide +kernel
theorem dX5_value_26 : decode cX5_value 26 = .ok (.if_icmp .ne 5, 3) := by decide +kernel
theorem dX5_value_29 : decode cX5_value 29 = .ok (.iconst 1, 1) := by decide +kernel
theorem dX5_value_30 : decode cX5_value 30 = .ok (.ireturn, 1) := by decide +kernel
theorem dX5_value_31 : decode cX5_value 31 = .ok (.aload_n 0, 1) := by decide +kernel
theorem dX5_value_32 : decode cX5_value 32 = .ok (.getfield 22, 3) := by decide +kernel
theorem dX5_value_35 : decode cX5_value 35 = .ok (.getfield 59, 3) := by decide +kernel
theorem dX5_value_38 : decode cX5_value 38 = .ok (.iload_n 1, 1) := by decide +kernel
theorem dX5_value_39 : decode cX5_value 39 = .ok (.iaload, 1) := by decide +kernel
theorem dX5_value_40 : decode cX5_value 40 = .ok (.tableswitch 125 0 4 #[36, 46, 68, 90, 112], 36) := by decide +kernel
theorem dX5_value_76 : decode cX5_value 76 = .ok (.aload_n 0, 1) := by decide +kernel
theorem dX5_value_77 : decode cX5_value 77 = .ok (.getfield 26, 3) := by decide +kernel
theorem dX5_value_80 : decode cX5_value 80 = .ok (.iload_n 2, 1) := by decide +kernel
theorem dX5_value_81 : decode cX5_value 81 = .ok (.iload_n 1, 1) := by decide +kernel
theorem dX5_value_82 : decode cX5_value 82 = .ok (.invokevirtual 66, 3) := by decide +kernel
theorem dX5_value_85 : decode cX5_value 85 = .ok (.ireturn, 1) := by decide +kernel
theorem dX5_value_86 : decode cX5_value 86 = .ok (.aload_n 0, 1) := by decide +kernel
theorem dX5_value_87 : decode cX5_value 87 = .ok (.iload_n 1, 1) := by decide +kernel
theorem dX5_value_88 : decode cX5_value 88 = .ok (.iconst 0, 1) := by decide +kernel
theorem dX5_value_89 : decode cX5_value 89 = .ok (.aload_n 0, 1) := by decide +kernel
theorem dX5_value_90 : decode cX5_value 90 = .ok (.getfield 9, 3) := by decide +kernel
theorem dX5_value_93 : decode cX5_value 93 = .ok (.invokevirtual 69, 3) := by decide +kernel
theorem dX5_value_96 : decode cX5_value 96 = .ok (.aload_n 0, 1) := by decide +kernel
theorem dX5_value_97 : decode cX5_value 97 = .ok (.iload_n 1, 1) := by decide +kernel
theorem dX5_value_98 : decode cX5_value 98 = .ok (.iconst 1, 1) := by decide +kernel
theorem dX5_value_99 : decode cX5_value 99 = .ok (.aload_n 0, 1) := by decide +kernel
theorem dX5_value_100 : decode cX5_value 100 = .ok (.getfield 9, 3) := by decide +kernel
theorem dX5_value_103 : decode cX5_value 103 = .ok (.invokevirtual 69, 3) := by decide +kernel
theorem dX5_value_106 : decode cX5_value 106 = .ok (.iand, 1) := by decide +kernel
theorem dX5_value_107 : decode cX5_value 107 = .ok (.ireturn, 1) := by decide +kernel
theorem dX5_value_108 : decode cX5_value 108 = .ok (.aload_n 0, 1) := by decide +kernel
theorem dX5_value_109 : decode cX5_value 109 = .ok (.iload_n 1, 1) := by decide +kernel
theorem dX5_value_110 : decode cX5_value 110 = .ok (.iconst 0, 1) := by decide +kernel
theorem dX5_value_111 : decode cX5_value 111 = .ok (.aload_n 0, 1) := by decide +kernel
theorem dX5_value_112 : decode cX5_value 112 = .ok (.getfield 9, 3) := by decide +kernel
theorem dX5_value_115 : decode cX5_value 115 = .ok (.invokevirtual 69, 3) := by decide +kernel
theorem dX5_value_118 : decode cX5_value 118 = .ok (.aload_n 0, 1) := by decide +kernel
theorem dX5_value_119 : decode cX5_value 119 = .ok (.iload_n 1, 1) := by decide +kernel
theorem dX5_value_120 : decode cX5_value 120 = .ok (.iconst 1, 1) := by decide +kernel
theorem dX5_value_121 : decode cX5_value 121 = .ok (.aload_n 0, 1) := by decide +kernel
theorem dX5_value_122 : decode cX5_value 122 = .ok (.getfield 9, 3) := by decide +kernel
theorem dX5_value_125 : decode cX5_value 125 = .ok (.invokevirtual 69, 3) := by decide +kernel
theorem dX5_value_128 : decode cX5_value 128 = .ok (.ior, 1) := by decide +kernel
theorem dX5_value_129 : decode cX5_value 129 = .ok (.ireturn, 1) := by decide +kernel
theorem dX5_value_130 : decode cX5_value 130 = .ok (.aload_n 0, 1) := by decide +kernel
theorem dX5_value_131 : decode cX5_value 131 = .ok (.iload_n 1, 1) := by decide +kernel
theorem dX5_value_132 : decode cX5_value 132 = .ok (.iconst 0, 1) := by decide +kernel
theorem dX5_value_133 : decode cX5_value 133 = .ok (.aload_n 0, 1) := by decide +kernel
theorem dX5_value_134 : decode cX5_value 134 = .ok (.getfield 9, 3) := by decide +kernel
theorem dX5_value_137 : decode cX5_value 137 = .ok (.invokevirtual 69, 3) := by decide +kernel
theorem dX5_value_140 : decode cX5_value 140 = .ok (.aload_n 0, 1) := by decide +kernel
theorem dX5_value_141 : decode cX5_value 141 = .ok (.iload_n 1, 1) := by decide +kernel
theorem dX5_value_142 : decode cX5_value 142 = .ok (.iconst 1, 1) := by decide +kernel
theorem dX5_value_143 : decode cX5_value 143 = .ok (.aload_n 0, 1) := by decide +kernel
theorem dX5_value_144 : decode cX5_value 144 = .ok (.getfield 9, 3) := by decide +kernel
theorem dX5_value_147 : decode cX5_value 147 = .ok (.invokevirtual 69, 3) := by decide +kernel
theorem dX5_value_150 : decode cX5_value 150 = .ok (.ixor, 1) := by decide +kernel
theorem dX5_value_151 : decode cX5_value 151 = .ok (.ireturn, 1) := by decide +kernel
theorem dX5_value_152 : decode cX5_value 152 = .ok (.iconst 1, 1) := by decide +kernel
theorem dX5_value_153 : decode cX5_value 153 = .ok (.aload_n 0, 1) := by decide +kernel
theorem dX5_value_154 : decode cX5_value 154 = .ok (.iload_n 1, 1) := by decide +kernel
theorem dX5_value_155 : decode cX5_value 155 = .ok (.iconst 0, 1) := by decide +kernel
theorem dX5_value_156 : decode cX5_value 156 = .ok (.aload_n 0, 1) := by decide +kernel
theorem dX5_value_157 : decode cX5_value 157 = .ok (.getfield 9, 3) := by decide +kernel
theorem dX5_value_160 : decode cX5_value 160 = .ok (.invokevirtual 69, 3) := by decide +kernel
theorem dX5_value_163 : decode cX5_value 163 = .ok (.isub, 1) := by decide +kernel
theorem dX5_value_164 : decode cX5_value 164 = .ok (.ireturn, 1) := by decide +kernel
theorem dX5_value_165 : decode cX5_value 165 = .ok (.iload_n 2, 1) := by decide +kernel
theorem dX5_value_166 : decode cX5_value 166 = .ok (.ifCond .ne 7, 3) := by decide +kernel
theorem dX5_value_169 : decode cX5_value 169 = .ok (.iconst 0, 1) := by decide +kernel
theorem dX5_value_170 : decode cX5_value 170 = .ok (.goto 13, 3) := by decide +kernel
theorem dX5_value_173 : decode cX5_value 173 = .ok (.aload_n 0, 1) := by decide +kernel
theorem dX5_value_174 : decode cX5_value 174 = .ok (.iload_n 1, 1) := by decide +kernel
theorem dX5_value_175 : decode cX5_value 175 = .ok (.iconst 0, 1) := by decide +kernel
theorem dX5_value_176 : decode cX5_value 176 = .ok (.aload_n 0, 1) := by decide +kernel
theorem dX5_value_177 : decode cX5_value 177 = .ok (.getfield 15, 3) := by decide +kernel
theorem dX5_value_180 : decode cX5_value 180 = .ok (.invokevirtual 69, 3) := by decide +kernel
theorem dX5_value_183 : decode cX5_value 183 = .ok (.ireturn, 1) := by decide +kernel
theorem dX5_pinValue_0 : decode cX5_pinValue 0 = .ok (.aload_n 0, 1) := by decide +kernel
theorem dX5_pinValue_1 : decode cX5_pinValue 1 = .ok (.getfield 18, 3) := by decide +kernel
theorem dX5_pinValue_4 : decode cX5_pinValue 4 = .ok (.sipush 300, 3) := by decide +kernel
theorem dX5_pinValue_7 : decode cX5_pinValue 7 = .ok (.iconst 2, 1) := by decide +kernel
theorem dX5_pinValue_8 : decode cX5_pinValue 8 = .ok (.iload_n 1, 1) := by decide +kernel
theorem dX5_pinValue_9 : decode cX5_pinValue 9 = .ok (.imul, 1) := by decide +kernel
theorem dX5_pinValue_10 : decode cX5_pinValue 10 = .ok (.iadd, 1) := by decide +kernel
theorem dX5_pinValue_11 : decode cX5_pinValue 11 = .ok (.iload_n 2, 1) := by decide +kernel
theorem dX5_pinValue_12 : decode cX5_pinValue 12 = .ok (.iadd, 1) := by decide +kernel
theorem dX5_pinValue_13 : decode cX5_pinValue 13 = .ok (.if_icmp .ne 5, 3) := by decide +kernel
theorem dX5_pinValue_16 : decode cX5_pinValue 16 = .ok (.iconst 1, 1) := by decide +kernel
theorem dX5_pinValue_17 : decode cX5_pinValue 17 = .ok (.ireturn, 1) := by decide +kernel
theorem dX5_pinValue_18 : decode cX5_pinValue 18 = .ok (.aload_n 0, 1) := by decide +kernel
theorem dX5_pinValue_19 : decode cX5_pinValue 19 = .ok (.getfield 22, 3) := by decide +kernel
theorem dX5_pinValue_22 : decode cX5_pinValue 22 = .ok (.getfield 73, 3) := by decide +kernel
theorem dX5_pinValue_25 : decode cX5_pinValue 25 = .ok (.iconst 2, 1) := by decide +kernel
theorem dX5_pinValue_26 : decode cX5_pinValue 26 = .ok (.iload_n 1, 1) := by decide +kernel
theorem dX5_pinValue_27 : decode cX5_pinValue 27 = .ok (.imul, 1) := by decide +kernel
theorem dX5_pinValue_28 : decode cX5_pinValue 28 = .ok (.iload_n 2, 1) := by decide +kernel
theorem dX5_pinValue_29 : decode cX5_pinValue 29 = .ok (.iadd, 1) := by decide +kernel
theorem dX5_pinValue_30 : decode cX5_pinValue 30 = .ok (.iaload, 1) := by decide +kernel
theorem dX5_pinValue_31 : decode cX5_pinValue 31 = .ok (.istore 4, 2) := by decide +kernel
theorem dX5_pinValue_33 : decode cX5_pinValue 33 = .ok (.aload_n 0, 1) := by decide +kernel
theorem dX5_pinValue_34 : decode cX5_pinValue 34 = .ok (.getfield 22, 3) := by decide +kernel
theorem dX5_pinValue_37 : decode cX5_pinValue 37 = .ok (.iload 4, 2) := by decide +kernel
theorem dX5_pinValue_39 : decode cX5_pinValue 39 = .ok (.invokevirtual 76, 3) := by decide +kernel
theorem dX5_pinValue_42 : decode cX5_pinValue 42 = .ok (.ifCond .eq 10, 3) := by decide +kernel
theorem dX5_pinValue_45 : decode cX5_pinValue 45 = .ok (.aload_n 3, 1) := by decide +kernel
theorem dX5_pinValue_46 : decode cX5_pinValue 46 = .ok (.iload 4, 2) := by decide +kernel
theorem dX5_pinValue_48 : decode cX5_pinValue 48 = .ok (.iaload, 1) := by decide +kernel
theorem dX5_pinValue_49 : decode cX5_pinValue 49 = .ok (.goto 4, 3) := by decide +kernel
theorem dX5_pinValue_52 : decode cX5_pinValue 52 = .ok (.iconst 0, 1) := by decide +kernel
theorem dX5_pinValue_53 : decode cX5_pinValue 53 = .ok (.ireturn, 1) := by decide +kernel
theorem dX6_init_0 : decode cX6_init 0 = .ok (.aload_n 0, 1) := by decide +kernel
theorem dX6_init_1 : decode cX6_init 1 = .ok (.invokespecial 3, 3) := by decide +kernel
theorem dX6_init_4 : decode cX6_init 4 = .ok (.aload_n 0, 1) := by decide +kernel
theorem dX6_init_5 : decode cX6_init 5 = .ok (.bipush 16, 2) := by decide +kernel
theorem dX6_init_7 : decode cX6_init 7 = .ok (.newarray .int, 2) := by decide +kernel
theorem dX6_init_9 : decode cX6_init 9 = .ok (.putfield 9, 3) := by decide +kernel
theorem dX6_init_12 : decode cX6_init 12 = .ok (.aload_n 0, 1) := by decide +kernel
theorem dX6_init_13 : decode cX6_init 13 = .ok (.iconst 0, 1) := by decide +kernel
theorem dX6_init_14 : decode cX6_init 14 = .ok (.putfield 15, 3) := by decide +kernel
theorem dX6_init_17 : decode cX6_init 17 = .ok (.return_, 1) := by decide +kernel
theorem dX6_misfit_0 : decode cX6_misfit 0 = .ok (.iconst 0, 1) := by decide +kernel
theorem dX6_misfit_1 : decode cX6_misfit 1 = .ok (.istore_n 1, 1) := by decide +kernel
theorem dX6_misfit_2 : decode cX6_misfit 2 = .ok (.iload_n 1, 1) := by decide +kernel
theorem dX6_misfit_3 : decode cX6_misfit 3 = .ok (.aload_n 0, 1) := by decide +kernel
theorem dX6_misfit_4 : decode cX6_misfit 4 = .ok (.getfield 19, 3) := by decide +kernel
theorem dX6_misfit_7 : decode cX6_misfit 7 = .ok (.if_icmp .ge 30, 3) := by decide +kernel
theorem dX6_misfit_10 : decode cX6_misfit 10 = .ok (.iload_n 1, 1) := by decide +kernel
theorem dX6_misfit_11 : decode cX6_misfit 11 = .ok (.bipush 16, 2) := by decide +kernel
theorem dX6_misfit_13 : decode cX6_misfit 13 = .ok (.if_icmp .ge 16, 3) := by decide +kernel
theorem dX6_misfit_16 : decode cX6_misfit 16 = .ok (.aload_n 0, 1) := by decide +kernel
theorem dX6_misfit_17 : decode cX6_misfit 17 = .ok (.getfield 24, 3) := by decide +kernel
theorem dX6_misfit_20 : decode cX6_misfit 20 = .ok (.iload_n 1, 1) := by decide +kernel
theorem dX6_misfit_21 : decode cX6_misfit 21 = .ok (.iaload, 1) := by decide +kernel
theorem dX6_misfit_22 : decode cX6_misfit 22 = .ok (.invokestatic 27, 3) := by decide +kernel
theorem dX6_misfit_25 : decode cX6_misfit 25 = .ok (.iconst (-1), 1) := by decide +kernel
theorem dX6_misfit_26 : decode cX6_misfit 26 = .ok (.if_icmp .ne 5, 3) := by decide +kernel
theorem dX6_misfit_29 : decode cX6_misfit 29 = .ok (.iload_n 1, 1) := by decide +kernel
theorem dX6_misfit_30 : decode cX6_misfit 30 = .ok (.ireturn, 1) := by decide +kernel
theorem dX6_misfit_31 : decode cX6_misfit 31 = .ok (.iinc 1 1, 3) := by decide +kernel
theorem dX6_misfit_34 : decode cX6_misfit 34 = .ok (.goto (-32), 3) := by decide +kernel
theorem dX6_misfit_37 : decode cX6_misfit 37 = .ok (.aload_n 0, 1) := by decide +kernel
theorem dX6_misfit_38 : decode cX6_misfit 38 = .ok (.getfield 19, 3) := by decide +kernel
theorem dX6_misfit_41 : decode cX6_misfit 41 = .ok (.ireturn, 1) := by decide +kernel
theorem dX6_read_0 : decode cX6_read 0 = .ok (.aload_n 0, 1) := by decide +kernel
theorem dX6_read_1 : decode cX6_read 1 = .ok (.aload_n 1, 1) := by decide +kernel
theorem dX6_read_2 : decode cX6_read 2 = .ok (.getfield 19, 3) := by decide +kernel
theorem dX6_read_5 : decode cX6_read 5 = .ok (.bipush 16, 2) := by decide +kernel
theorem dX6_read_7 : decode cX6_read 7 = .ok (.invokestatic 31, 3) := by decide +kernel
theorem dX6_read_10 : decode cX6_read 10 = .ok (.putfield 15, 3) := by decide +kernel
theorem dX6_read_13 : decode cX6_read 13 = .ok (.iconst 0, 1) := by decide +kernel
theorem dX6_read_14 : decode cX6_read 14 = .ok (.istore_n 2, 1) := by decide +kernel
theorem dX6_read_15 : decode cX6_read 15 = .ok (.iload_n 2, 1) := by decide +kernel
theorem dX6_read_16 : decode cX6_read 16 = .ok (.aload_n 0, 1) := by decide +kernel
theorem dX6_read_17 : decode cX6_read 17 = .ok (.getfield 15, 3) := by decide +kernel
theorem dX6_read_20 : decode cX6_read 20 = .ok (.if_icmp .ge 24, 3) := by decide +kernel
theorem dX6_read_23 : decode cX6_read 23 = .ok (.aload_n 0, 1) := by decide +kernel
theorem dX6_read_24 : decode cX6_read 24 = .ok (.getfield 9, 3) := by decide +kernel
theorem dX6_read_27 : decode cX6_read 27 = .ok (.iload_n 2, 1) := by decide +kernel
theorem dX6_read_28 : decode cX6_read 28 = .ok (.aload_n 1, 1) := by decide +kernel
theorem dX6_read_29 : decode cX6_read 29 = .ok (.getfield 24, 3) := by decide +kernel
theorem dX6_read_32 : decode cX6_read 32 = .ok (.iload_n 2, 1) := by decide +kernel
theorem dX6_read_33 : decode cX6_read 33 = .ok (.iaload, 1) := by decide +kernel
theorem dX6_read_34 : decode cX6_read 34 = .ok (.invokestatic 27, 3) := by decide +kernel
theorem dX6_read_37 : decode cX6_read 37 = .ok (.iastore, 1) := by decide +kernel
theorem dX6_read_38 : decode cX6_read 38 = .ok (.iinc 2 1, 3) := by decide +kernel
theorem dX6_read_41 : decode cX6_read 41 = .ok (.goto (-26), 3) := by decide +kernel
theorem dX6_read_44 : decode cX6_read 44 = .ok (.return_, 1) := by decide +kernel
theorem dX6_bit_0 : decode cX6_bit 0 = .ok (.aload_n 0, 1) := by decide +kernel
theorem dX6_bit_1 : decode cX6_bit 1 = .ok (.getfield 9, 3) := by decide +kernel
theorem dX6_bit_4 : decode cX6_bit 4 = .ok (.iload_n 1, 1) := by decide +kernel
theorem dX6_bit_5 : decode cX6_bit 5 = .ok (.iaload, 1) := by decide +kernel
theorem dX6_bit_6 : decode cX6_bit 6 = .ok (.iload_n 2, 1) := by decide +kernel
theorem dX6_bit_7 : decode cX6_bit 7 = .ok (.ishr, 1) := by decide +kernel
theorem dX6_bit_8 : decode cX6_bit 8 = .ok (.iconst 1, 1) := by decide +kernel
theorem dX6_bit_9 : decode cX6_bit 9 = .ok (.iand, 1) := by decide +kernel
theorem dX6_bit_10 : decode cX6_bit 10 = .ok (.ireturn, 1) := by decide +kernel
theorem dX7_init_0 : decode cX7_init 0 = .ok (.aload_n 0, 1) := by decide +kernel
theorem dX7_init_1 : decode cX7_init 1 = .ok (.invokespecial 3, 3) := by decide +kernel
theorem dX7_init_4 : decode cX7_init 4 = .ok (.aload_n 0, 1) := by decide +kernel
theorem dX7_init_5 : decode cX7_init 5 = .ok (.bipush 12, 2) := by decide +kernel
theorem dX7_init_7 : decode cX7_init 7 = .ok (.newarray .long, 2) := by decide +kernel
theorem dX7_init_9 : decode cX7_init 9 = .ok (.putfield 9, 3) := by decide +kernel
theorem dX7_init_12 : decode cX7_init 12 = .ok (.aload_n 0, 1) := by decide +kernel
theorem dX7_init_13 : decode cX7_init 13 = .ok (.lconst 0, 1) := by decide +kernel
theorem dX7_init_14 : decode cX7_init 14 = .ok (.putfield 15, 3) := by decide +kernel
theorem dX7_init_17 : decode cX7_init 17 = .ok (.aload_n 0, 1) := by decide +kernel
theorem dX7_init_18 : decode cX7_init 18 = .ok (.bipush 40, 2) := by decide +kernel
theorem dX7_init_20 : decode cX7_init 20 = .ok (.newarray .int, 2) := by decide +kernel
theorem dX7_init_22 : decode cX7_init 22 = .ok (.putfield 19, 3) := by decide +kernel
theorem dX7_init_25 : decode cX7_init 25 = .ok (.aload_n 0, 1) := by decide +kernel
theorem dX7_init_26 : decode cX7_init 26 = .ok (.bipush 40, 2) := by decide +kernel
theorem dX7_init_28 : decode cX7_init 28 = .ok (.newarray .int, 2) := by decide +kernel
theorem dX7_init_30 : decode cX7_init 30 = .ok (.putfield 23, 3) := by decide +kernel
theorem dX7_init_33 : decode cX7_init 33 = .ok (.aload_n 0, 1) := by decide +kernel
theorem dX7_init_34 : decode cX7_init 34 = .ok (.bipush 40, 2) := by decide +kernel
theorem dX7_init_36 : decode cX7_init 36 = .ok (.newarray .int, 2) := by decide +kernel
theorem dX7_init_38 : decode cX7_init 38 = .ok (.putfield 26, 3) := by decide +kernel
theorem dX7_init_41 : decode cX7_init 41 = .ok (.aload_n 0, 1) := by decide +kernel
theorem dX7_init_42 : decode cX7_init 42 = .ok (.iconst 0, 1) := by decide +kernel
theorem dX7_init_43 : decode cX7_init 43 = .ok (.putfield 29, 3) := by decide +kernel
theorem dX7_init_46 : decode cX7_init 46 = .ok (.aload_n 0, 1) := by decide +kernel
theorem dX7_init_47 : decode cX7_init 47 = .ok (.iconst (-1), 1) := by decide +kernel
theorem dX7_init_48 : decode cX7_init 48 = .ok (.putfield 33, 3) := by decide +kernel
theorem dX7_init_51 : decode cX7_init 51 = .ok (.return_, 1) := by decide +kernel
theorem dX7_learn_0 : decode cX7_learn 0 = .ok (.aload_n 0, 1) := by decide +kernel
theorem dX7_learn_1 : decode cX7_learn 1 = .ok (.lconst 0, 1) := by decide +kernel
theorem dX7_learn_2 : decode cX7_learn 2 = .ok (.putfield 15, 3) := by decide +kernel
theorem dX7_learn_5 : decode cX7_learn 5 = .ok (.iconst 0, 1) := by decide +kernel
theorem dX7_learn_6 : decode cX7_learn 6 = .ok (.istore_n 2, 1) := by decide +kernel
theorem dX7_learn_7 : decode cX7_learn 7 = .ok (.iload_n 2, 1) := by decide +kernel
theorem dX7_learn_8 : decode cX7_learn 8 = .ok (.bipush 12, 2) := by decide +kernel
theorem dX7_learn_10 : decode cX7_learn 10 = .ok (.if_icmp .ge 69, 3) := by decide +kernel
theorem dX7_learn_13 : decode cX7_learn 13 = .ok (.aload_n 0, 1) := by decide +kernel
theorem dX7_learn_14 : decode cX7_learn 14 = .ok (.getfield 9, 3) := by decide +kernel
theorem dX7_learn_17 : decode cX7_learn 17 = .ok (.iload_n 2, 1) := by decide +kernel
theorem dX7_learn_18 : decode cX7_learn 18 = .ok (.lconst 0, 1) := by decide +kernel
theorem dX7_learn_19 : decode cX7_learn 19 = .ok (.lastore, 1) := by decide +kernel
theorem dX7_learn_20 : decode cX7_learn 20 = .ok (.iconst 0, 1) := by decide +kernel
theorem dX7_learn_21 : decode cX7_learn 21 = .ok (.istore_n 3, 1) := by decide +kernel
theorem dX7_learn_22 : decode cX7_learn 22 = .ok (.iload_n 3, 1) := by decide +kernel
theorem dX7_learn_23 : decode cX7_learn 23 = .ok (.aload_n 1, 1) := by decide +kernel
theorem dX7_learn_24 : decode cX7_learn 24 = .ok (.getfield 36, 3) := by decide +kernel
theorem dX7_learn_27 : decode cX7_learn 27 = .ok (.if_icmp .ge 31, 3) := by decide +kernel
theorem dX7_learn_30 : decode cX7_learn 30 = .ok (.aload_n 0, 1) := by decide +kernel
theorem dX7_learn_31 : decode cX7_learn 31 = .ok (.getfield 9, 3) := by decide +kernel
theorem dX7_learn_34 : decode cX7_learn 34 = .ok (.iload_n 2, 1) := by decide +kernel
theorem dX7_learn_35 : decode cX7_learn 35 = .ok (.dup2, 1) := by decide +kernel
theorem dX7_learn_36 : decode cX7_learn 36 = .ok (.laload, 1) := by decide +kernel
theorem dX7_learn_37 : decode cX7_learn 37 = .ok (.aload_n 1, 1) := by decide +kernel
theorem dX7_learn_38 : decode cX7_learn 38 = .ok (.getfield 39, 3) := by decide +kernel
theorem dX7_learn_41 : decode cX7_learn 41 = .ok (.iload_n 3, 1) := by decide +kernel
theorem dX7_learn_42 : decode cX7_learn 42 = .ok (.iaload, 1) := by decide +kernel
theorem dX7_learn_43 : decode cX7_learn 43 = .ok (.iload_n 2, 1) := by decide +kernel
theorem dX7_learn_44 : decode cX7_learn 44 = .ok (.ishr, 1) := by decide +kernel
theorem dX7_learn_45 : decode cX7_learn 45 = .ok (.iconst 1, 1) := by decide +kernel
theorem dX7_learn_46 : decode cX7_learn 46 = .ok (.iand, 1) := by decide +kernel
theorem dX7_learn_47 : decode cX7_learn 47 = .ok (.i2l, 1) := by decide +kernel
theorem dX7_learn_48 : decode cX7_learn 48 = .ok (.iload_n 3, 1) := by decide +kernel
theorem dX7_learn_49 : decode cX7_learn 49 = .ok (.lshl, 1) := by decide +kernel
theorem dX7_learn_50 : decode cX7_learn 50 = .ok (.lor, 1) := by decide +kernel
theorem dX7_learn_51 : decode cX7_learn 51 = .ok (.lastore, 1) := by decide +kernel
theorem dX7_learn_52 : decode cX7_learn 52 = .ok (.iinc 3 1, 3) := by decide +kernel
theorem dX7_learn_55 : decode cX7_learn 55 = .ok (.goto (-33), 3) := by decide +kernel
theorem dX7_learn_58 : decode cX7_learn 58 = .ok (.aload_n 0, 1) := by decide +kernel
theorem dX7_learn_59 : decode cX7_learn 59 = .ok (.dup, 1) := by decide +kernel
theorem dX7_learn_60 : decode cX7_learn 60 = .ok (.getfield 15, 3) := by decide +kernel
theorem dX7_learn_63 : decode cX7_learn 63 = .ok (.aload_n 0, 1) := by decide +kernel
theorem dX7_learn_64 : decode cX7_learn 64 = .ok (.getfield 9, 3) := by decide +kernel
theorem dX7_learn_67 : decode cX7_learn 67 = .ok (.iload_n 2, 1) := by decide +kernel
theorem dX7_learn_68 : decode cX7_learn 68 = .ok (.laload, 1) := by decide +kernel
theorem dX7_learn_69 : decode cX7_learn 69 = .ok (.lor, 1) := by decide +kernel
theorem dX7_learn_70 : decode cX7_learn 70 = .ok (.putfield 15, 3) := by decide +kernel
theorem dX7_learn_73 : decode cX7_learn 73 = .ok (.iinc 2 1, 3) := by decide +kernel
theorem dX7_learn_76 : decode cX7_learn 76 = .ok (.goto (-69), 3) := by decide +kernel
theorem dX7_learn_79 : decode cX7_learn 79 = .ok (.return_, 1) := by decide +kernel
theorem dX7_choose_0 : decode cX7_choose 0 = .ok (.aload_n 0, 1) := by decide +kernel
theorem dX7_choose_1 : decode cX7_choose 1 = .ok (.getfield 15, 3) := by decide +kernel
theorem dX7_choose_4 : decode cX7_choose 4 = .ok (.lstore_n 2, 1) := by decide +kernel
theorem dX7_choose_5 : decode cX7_choose 5 = .ok (.iconst 0, 1) := by decide +kernel
theorem dX7_choose_6 : decode cX7_choose 6 = .ok (.istore 4, 2) := by decide +kernel
theorem dX7_choose_8 : decode cX7_choose 8 = .ok (.iconst 0, 1) := by decide +kernel
theorem dX7_choose_9 : decode cX7_choose 9 = .ok (.istore 5, 2) := by decide +kernel
theorem dX7_choose_11 : decode cX7_choose 11 = .ok (.iload 5, 2) := by decide +kernel
theorem dX7_choose_13 : decode cX7_choose 13 = .ok (.bipush 12, 2) := by decide +kernel
theorem dX7_choose_15 : decode cX7_choose 15 = .ok (.if_icmp .ge 54, 3) := by decide +kernel
theorem dX7_choose_18 : decode cX7_choose 18 = .ok (.aload_n 1, 1) := by decide +kernel
theorem dX7_choose_19 : decode cX7_choose 19 = .ok (.getfield 42, 3) := by decide +kernel
theorem dX7_choose_22 : decode cX7_choose 22 = .ok (.iload 5, 2) := by decide +kernel
theorem dX7_choose_24 : decode cX7_choose 24 = .ok (.iaload, 1) := by decide +kernel
theorem dX7_choose_25 : decode cX7_choose 25 = .ok (.iconst (-1), 1) := by decide +kernel
theorem dX7_choose_26 : decode cX7_choose 26 = .ok (.if_icmp .eq 37, 3) := by decide +kernel
theorem dX7_choose_29 : decode cX7_choose 29 = .ok (.lload_n 2, 1) := by decide +kernel
theorem dX7_choose_30 : decode cX7_choose 30 = .ok (.aload_n 0, 1) := by decide +kernel
theorem dX7_choose_31 : decode cX7_choose 31 = .ok (.iload 5, 2) := by decide +kernel
theorem dX7_choose_33 : decode cX7_choose 33 = .ok (.aload_n 1, 1) := by decide +kernel
theorem dX7_choose_34 : decode cX7_choose 34 = .ok (.getfield 42, 3) := by decide +kernel
theorem dX7_choose_37 : decode cX7_choose 37 = .ok (.iload 5, 2) := by decide +kernel
theorem dX7_choose_39 : decode cX7_choose 39 = .ok (.iaload, 1) := by decide +kernel
theorem dX7_choose_40 : decode cX7_choose 40 = .ok (.iconst 1, 1) := by decide +kernel
theorem dX7_choose_41 : decode cX7_choose 41 = .ok (.if_icmp .ne 7, 3) := by decide +kernel
theorem dX7_choose_44 : decode cX7_choose 44 = .ok (.iconst 1, 1) := by decide +kernel
theorem dX7_choose_45 : decode cX7_choose 45 = .ok (.goto 4, 3) := by decide +kernel
theorem dX7_choose_48 : decode cX7_choose 48 = .ok (.iconst 0, 1) := by decide +kernel
theorem dX7_choose_49 : decode cX7_choose 49 = .ok (.invokevirtual 47, 3) := by decide +kernel
theorem dX7_choose_52 : decode cX7_choose 52 = .ok (.land, 1) := by decide +kernel
theorem dX7_choose_53 : decode cX7_choose 53 = .ok (.lstore_n 2, 1) := by decide +kernel
theorem dX7_choose_54 : decode cX7_choose 54 = .ok (.iload 4, 2) := by decide +kernel
theorem dX7_choose_56 : decode cX7_choose 56 = .ok (.iconst 1, 1) := by decide +kernel
theorem dX7_choose_57 : decode cX7_choose 57 = .ok (.iload 5, 2) := by decide +kernel
theorem dX7_choose_59 : decode cX7_choose 59 = .ok (.ishl, 1) := by decide +kernel
theorem dX7_choose_60 : decode cX7_choose 60 = .ok (.ior, 1) := by decide +kernel
theorem dX7_choose_61 : decode cX7_choose 61 = .ok (.istore 4, 2) := by decide +kernel
theorem dX7_choose_63 : decode cX7_choose 63 = .ok (.iinc 5 1, 3) := by decide +kernel
theorem dX7_choose_66 : decode cX7_choose 66 = .ok (.goto (-55), 3) := by decide +kernel
theorem dX7_choose_69 : decode cX7_choose 69 = .ok (.aload_n 0, 1) := by decide +kernel
theorem dX7_choose_70 : decode cX7_choose 70 = .ok (.lload_n 2, 1) := by decide +kernel
theorem dX7_choose_71 : decode cX7_choose 71 = .ok (.invokevirtual 51, 3) := by decide +kernel
theorem dX7_choose_74 : decode cX7_choose 74 = .ok (.aload_n 0, 1) := by decide +kernel
theorem dX7_choose_75 : decode cX7_choose 75 = .ok (.aload_n 0, 1) := by decide +kernel
theorem dX7_choose_76 : decode cX7_choose 76 = .ok (.lload_n 2, 1) := by decide +kernel
theorem dX7_choose_77 : decode cX7_choose 77 = .ok (.iload 4, 2) := by decide +kernel
theorem dX7_choose_79 : decode cX7_choose 79 = .ok (.invokevirtual 55, 3) := by decide +kernel
theorem dX7_choose_82 : decode cX7_choose 82 = .ok (.putfield 33, 3) := by decide +kernel
theorem dX7_choose_85 : decode cX7_choose 85 = .ok (.aload_n 0, 1) := by decide +kernel
theorem dX7_choose_86 : decode cX7_choose 86 = .ok (.lload_n 2, 1) := by decide +kernel
theorem dX7_choose_87 : decode cX7_choose 87 = .ok (.iload 4, 2) := by decide +kernel
theorem dX7_choose_89 : decode cX7_choose 89 = .ok (.iconst 0, 1) := by decide +kernel
theorem dX7_choose_90 : decode cX7_choose 90 = .ok (.invokevirtual 59, 3) := by decide +kernel
theorem dX7_choose_93 : decode cX7_choose 93 = .ok (.return_, 1) := by decide +kernel
theorem dX7_listMembers_0 : decode cX7_listMembers 0 = .ok (.aload_n 0, 1) := by decide +kernel
theorem dX7_listMembers_1 : decode cX7_listMembers 1 = .ok (.iconst 0, 1) := by decide +kernel
theorem dX7_listMembers_2 : decode cX7_listMembers 2 = .ok (.putfield 29, 3) := by decide +kernel
theorem dX7_listMembers_5 : decode cX7_listMembers 5 = .ok (.iconst 0, 1) := by decide +kernel
theorem dX7_listMembers_6 : decode cX7_listMembers 6 = .ok (.istore_n 3, 1) := by decide +kernel
theorem dX7_listMembers_7 : decode cX7_listMembers 7 = .ok (.iload_n 3, 1) := by decide +kernel
theorem dX7_listMembers_8 : decode cX7_listMembers 8 = .ok (.bipush 40, 2) := by decide +kernel
theorem dX7_listMembers_10 : decode cX7_listMembers 10 = .ok (.if_icmp .ge 39, 3) := by decide +kernel
theorem dX7_listMembers_13 : decode cX7_listMembers 13 = .ok (.lload_n 1, 1) := by decide +kernel
theorem dX7_listMembers_14 : decode cX7_listMembers 14 = .ok (.iload_n 3, 1) := by decide +kernel
theorem dX7_listMembers_15 : decode cX7_listMembers 15 = .ok (.lshr, 1) := by decide +kernel
theorem dX7_listMembers_16 : decode cX7_listMembers 16 = .ok (.lconst 1, 1) := by decide +kernel
theorem dX7_listMembers_17 : decode cX7_listMembers 17 = .ok (.land, 1) := by decide +kernel
theorem dX7_listMembers_18 : decode cX7_listMembers 18 = .ok (.lconst 0, 1) := by decide +kernel
theorem dX7_listMembers_19 : decode cX7_listMembers 19 = .ok (.lcmp, 1) := by decide +kernel
theorem dX7_listMembers_20 : decode cX7_listMembers 20 = .ok (.ifCond .eq 23, 3) := by decide +kernel
theorem dX7_listMembers_23 : decode cX7_listMembers 23 = .ok (.aload_n 0, 1) := by decide +kernel
theorem dX7_listMembers_24 : decode cX7_listMembers 24 = .ok (.getfield 19, 3) := by decide +kernel
theorem dX7_listMembers_27 : decode cX7_listMembers 27 = .ok (.aload_n 0, 1) := by decide +kernel
theorem dX7_listMembers_28 : decode cX7_listMembers 28 = .ok (.getfield 29, 3) := by decide +kernel
theorem dX7_listMembers_31 : decode cX7_listMembers 31 = .ok (.iload_n 3, 1) := by decide +kernel
theorem dX7_listMembers_32 : decode cX7_listMembers 32 = .ok (.iastore, 1) := by decide +kernel
theorem dX7_listMembers_33 : decode cX7_listMembers 33 = .ok (.aload_n 0, 1) := by decide +kernel
theorem dX7_listMembers_34 : decode cX7_listMembers 34 = .ok (.dup, 1) := by decide +kernel
theorem dX7_listMembers_35 : decode cX7_listMembers 35 = .ok (.getfield 29, 3) := by decide +kernel
theorem dX7_listMembers_38 : decode cX7_listMembers 38 = .ok (.iconst 1, 1) := by decide +kernel
theorem dX7_listMembers_39 : decode cX7_listMembers 39 = .ok (.iadd, 1) := by decide +kernel
theorem dX7_listMembers_40 : decode cX7_listMembers 40 = .ok (.putfield 29, 3) := by decide +kernel
theorem dX7_listMembers_43 : decode cX7_listMembers 43 = .ok (.iinc 3 1, 3) := by decide +kernel
theorem dX7_listMembers_46 : decode cX7_listMembers 46 = .ok (.goto (-39), 3) := by decide +kernel
theorem dX7_listMembers_49 : decode cX7_listMembers 49 = .ok (.return_, 1) := by decide +kernel
theorem dX7_side_0 : decode cX7_side 0 = .ok (.iload_n 2, 1) := by decide +kernel
theorem dX7_side_1 : decode cX7_side 1 = .ok (.ifCond .eq 12, 3) := by decide +kernel
theorem dX7_side_4 : decode cX7_side 4 = .ok (.aload_n 0, 1) := by decide +kernel
theorem dX7_side_5 : decode cX7_side 5 = .ok (.getfield 9, 3) := by decide +kernel
theorem dX7_side_8 : decode cX7_side 8 = .ok (.iload_n 1, 1) := by decide +kernel
theorem dX7_side_9 : decode cX7_side 9 = .ok (.laload, 1) := by decide +kernel
theorem dX7_side_10 : decode cX7_side 10 = .ok (.goto 13, 3) := by decide +kernel
theorem dX7_side_13 : decode cX7_side 13 = .ok (.aload_n 0, 1) := by decide +kernel
theorem dX7_side_14 : decode cX7_side 14 = .ok (.getfield 9, 3) := by decide +kernel
theorem dX7_side_17 : decode cX7_side 17 = .ok (.iload_n 1, 1) := by decide +kernel
theorem dX7_side_18 : decode cX7_side 18 = .ok (.laload, 1) := by decide +kernel
theorem dX7_side_19 : decode cX7_side 19 = .ok (.ldc2_w 63, 3) := by decide +kernel
theorem dX7_side_22 : decode cX7_side 22 = .ok (.lxor, 1) := by decide +kernel
theorem dX7_side_23 : decode cX7_side 23 = .ok (.lreturn, 1) := by decide +kernel
theorem dX7_nextOf_0 : decode cX7_nextOf 0 = .ok (.lload_n 1, 1) := by decide +kernel
theorem dX7_nextOf_1 : decode cX7_nextOf 1 = .ok (.invokestatic 65, 3) := by decide +kernel
theorem dX7_nextOf_4 : decode cX7_nextOf 4 = .ok (.istore 4, 2) := by decide +kernel
theorem dX7_nextOf_6 : decode cX7_nextOf 6 = .ok (.iconst (-1), 1) := by decide +kernel
theorem dX7_nextOf_7 : decode cX7_nextOf 7 = .ok (.istore 5, 2) := by decide +kernel
theorem dX7_nextOf_9 : decode cX7_nextOf 9 = .ok (.iload 4, 2) := by decide +kernel
theorem dX7_nextOf_11 : decode cX7_nextOf 11 = .ok (.iload 4, 2) := by decide +kernel
theorem dX7_nextOf_13 : decode cX7_nextOf 13 = .ok (.imul, 1) := by decide +kernel
theorem dX7_nextOf_14 : decode cX7_nextOf 14 = .ok (.istore 6, 2) := by decide +kernel
theorem dX7_nextOf_16 : decode cX7_nextOf 16 = .ok (.iconst 0, 1) := by decide +kernel
theorem dX7_nextOf_17 : decode cX7_nextOf 17 = .ok (.istore 7, 2) := by decide +kernel
theorem dX7_nextOf_19 : decode cX7_nextOf 19 = .ok (.iload 7, 2) := by decide +kernel
theorem dX7_nextOf_21 : decode cX7_nextOf 21 = .ok (.bipush 12, 2) := by decide +kernel
theorem dX7_nextOf_23 : decode cX7_nextOf 23 = .ok (.if_icmp .ge 66, 3) := by decide +kernel
theorem dX7_nextOf_26 : decode cX7_nextOf 26 = .ok (.lload_n 1, 1) := by decide +kernel
theorem dX7_nextOf_27 : decode cX7_nextOf 27 = .ok (.aload_n 0, 1) := by decide +kernel
theorem dX7_nextOf_28 : decode cX7_nextOf 28 = .ok (.getfield 9, 3) := by decide +kernel
theorem dX7_nextOf_31 : decode cX7_nextOf 31 = .ok (.iload 7, 2) := by decide +kernel
theorem dX7_nextOf_33 : decode cX7_nextOf 33 = .ok (.laload, 1) := by decide +kernel
theorem dX7_nextOf_34 : decode cX7_nextOf 34 = .ok (.land, 1) := by decide +kernel
theorem dX7_nextOf_35 : decode cX7_nextOf 35 = .ok (.invokestatic 65, 3) := by decide +kernel
theorem dX7_nextOf_38 : decode cX7_nextOf 38 = .ok (.istore 8, 2) := by decide +kernel
theorem dX7_nextOf_40 : decode cX7_nextOf 40 = .ok (.iload 8, 2) := by decide +kernel
theorem dX7_nextOf_42 : decode cX7_nextOf 42 = .ok (.iload 8, 2) := by decide +kernel
theorem dX7_nextOf_44 : decode cX7_nextOf 44 = .ok (.imul, 1) := by decide +kernel
theorem dX7_nextOf_45 : decode cX7_nextOf 45 = .ok (.iload 4, 2) := by decide +kernel
theorem dX7_nextOf_47 : decode cX7_nextOf 47 = .ok (.iload 8, 2) := by decide +kernel
theorem dX7_nextOf_49 : decode cX7_nextOf 49 = .ok (.isub, 1) := by decide +kernel
theorem dX7_nextOf_50 : decode cX7_nextOf 50 = .ok (.iload 4, 2) := by decide +kernel
theorem dX7_nextOf_52 : decode cX7_nextOf 52 = .ok (.iload 8, 2) := by decide +kernel
theorem dX7_nextOf_54 : decode cX7_nextOf 54 = .ok (.isub, 1) := by decide +kernel
theorem dX7_nextOf_55 : decode cX7_nextOf 55 = .ok (.imul, 1) := by decide +kernel
theorem dX7_nextOf_56 : decode cX7_nextOf 56 = .ok (.iadd, 1) := by decide +kernel
theorem dX7_nextOf_57 : decode cX7_nextOf 57 = .ok (.istore 9, 2) := by decide +kernel
theorem dX7_nextOf_59 : decode cX7_nextOf 59 = .ok (.iload_n 3, 1) := by decide +kernel
theorem dX7_nextOf_60 : decode cX7_nextOf 60 = .ok (.iload 7, 2) := by decide +kernel
theorem dX7_nextOf_62 : decode cX7_nextOf 62 = .ok (.ishr, 1) := by decide +kernel
theorem dX7_nextOf_63 : decode cX7_nextOf 63 = .ok (.iconst 1, 1) := by decide +kernel
theorem dX7_nextOf_64 : decode cX7_nextOf 64 = .ok (.iand, 1) := by decide +kernel
theorem dX7_nextOf_65 : decode cX7_nextOf 65 = .ok (.ifCond .ne 18, 3) := by decide +kernel
theorem dX7_nextOf_68 : decode cX7_nextOf 68 = .ok (.iload 9, 2) := by decide +kernel
theorem dX7_nextOf_70 : decode cX7_nextOf 70 = .ok (.iload 6, 2) := by decide +kernel
theorem dX7_nextOf_72 : decode cX7_nextOf 72 = .ok (.if_icmp .ge 11, 3) := by decide +kernel
theorem dX7_nextOf_75 : decode cX7_nextOf 75 = .ok (.iload 9, 2) := by decide +kernel
theorem dX7_nextOf_77 : decode cX7_nextOf 77 = .ok (.istore 6, 2) := by decide +kernel
theorem dX7_nextOf_79 : decode cX7_nextOf 79 = .ok (.iload 7, 2) := by decide +kernel
theorem dX7_nextOf_81 : decode cX7_nextOf 81 = .ok (.istore 5, 2) := by decide +kernel
theorem dX7_nextOf_83 : decode cX7_nextOf 83 = .ok (.iinc 7 1, 3) := by decide +kernel
theorem dX7_nextOf_86 : decode cX7_nextOf 86 = .ok (.goto (-67), 3) := by decide +kernel
theorem dX7_nextOf_89 : decode cX7_nextOf 89 = .ok (.iload 5, 2) := by decide +kernel
theorem dX7_nextOf_91 : decode cX7_nextOf 91 = .ok (.ireturn, 1) := by decide +kernel
theorem dX7_goOn_0 : decode cX7_goOn 0 = .ok (.iload 4, 2) := by decide +kernel
theorem dX7_goOn_2 : decode cX7_goOn 2 = .ok (.bipush 12, 2) := by decide +kernel
theorem dX7_goOn_4 : decode cX7_goOn 4 = .ok (.if_icmp .ge 12, 3) := by decide +kernel
theorem dX7_goOn_7 : decode cX7_goOn 7 = .ok (.aload_n 0, 1) := by decide +kernel
theorem dX7_goOn_8 : decode cX7_goOn 8 = .ok (.lload_n 1, 1) := by decide +kernel
theorem dX7_goOn_9 : decode cX7_goOn 9 = .ok (.iload_n 3, 1) := by decide +kernel
theorem dX7_goOn_10 : decode cX7_goOn 10 = .ok (.invokevirtual 55, 3) := by decide +kernel
theorem dX7_goOn_13 : decode cX7_goOn 13 = .ok (.goto 4, 3) := by decide +kernel
theorem dX7_goOn_16 : decode cX7_goOn 16 = .ok (.iconst (-1), 1) := by decide +kernel
theorem dX7_goOn_17 : decode cX7_goOn 17 = .ok (.istore 5, 2) := by decide +kernel
theorem dX7_goOn_19 : decode cX7_goOn 19 = .ok (.iload 5, 2) := by decide +kernel
theorem dX7_goOn_21 : decode cX7_goOn 21 = .ok (.iconst (-1), 1) := by decide +kernel
theorem dX7_goOn_22 : decode cX7_goOn 22 = .ok (.if_icmp .ne 11, 3) := by decide +kernel
theorem dX7_goOn_25 : decode cX7_goOn 25 = .ok (.aload_n 0, 1) := by decide +kernel
theorem dX7_goOn_26 : decode cX7_goOn 26 = .ok (.lload_n 1, 1) := by decide +kernel
theorem dX7_goOn_27 : decode cX7_goOn 27 = .ok (.iload 4, 2) := by decide +kernel
theorem dX7_goOn_29 : decode cX7_goOn 29 = .ok (.invokevirtual 71, 3) := by decide +kernel
theorem dX7_goOn_32 : decode cX7_goOn 32 = .ok (.return_, 1) := by decide +kernel
theorem dX7_goOn_33 : decode cX7_goOn 33 = .ok (.aload_n 0, 1) := by decide +kernel
theorem dX7_goOn_34 : decode cX7_goOn 34 = .ok (.lload_n 1, 1) := by decide +kernel
theorem dX7_goOn_35 : decode cX7_goOn 35 = .ok (.aload_n 0, 1) := by decide +kernel
theorem dX7_goOn_36 : decode cX7_goOn 36 = .ok (.iload 5, 2) := by decide +kernel
theorem dX7_goOn_38 : decode cX7_goOn 38 = .ok (.iconst 1, 1) := by decide +kernel
theorem dX7_goOn_39 : decode cX7_goOn 39 = .ok (.invokevirtual 47, 3) := by decide +kernel
theorem dX7_goOn_42 : decode cX7_goOn 42 = .ok (.land, 1) := by decide +kernel
theorem dX7_goOn_43 : decode cX7_goOn 43 = .ok (.iload_n 3, 1) := by decide +kernel
theorem dX7_goOn_44 : decode cX7_goOn 44 = .ok (.iconst 1, 1) := by decide +kernel
theorem dX7_goOn_45 : decode cX7_goOn 45 = .ok (.iload 5, 2) := by decide +kernel
theorem dX7_goOn_47 : decode cX7_goOn 47 = .ok (.ishl, 1) := by decide +kernel
theorem dX7_goOn_48 : decode cX7_goOn 48 = .ok (.ior, 1) := by decide +kernel
theorem dX7_goOn_49 : decode cX7_goOn 49 = .ok (.iload 4, 2) := by decide +kernel
theorem dX7_goOn_51 : decode cX7_goOn 51 = .ok (.iconst 1, 1) := by decide +kernel
theorem dX7_goOn_52 : decode cX7_goOn 52 = .ok (.iadd, 1) := by decide +kernel
theorem dX7_goOn_53 : decode cX7_goOn 53 = .ok (.invokevirtual 59, 3) := by decide +kernel
theorem dX7_goOn_56 : decode cX7_goOn 56 = .ok (.aload_n 0, 1) := by decide +kernel
theorem dX7_goOn_57 : decode cX7_goOn 57 = .ok (.lload_n 1, 1) := by decide +kernel
theorem dX7_goOn_58 : decode cX7_goOn 58 = .ok (.aload_n 0, 1) := by decide +kernel
theorem dX7_goOn_59 : decode cX7_goOn 59 = .ok (.iload 5, 2) := by decide +kernel
theorem dX7_goOn_61 : decode cX7_goOn 61 = .ok (.iconst 0, 1) := by decide +kernel
theorem dX7_goOn_62 : decode cX7_goOn 62 = .ok (.invokevirtual 47, 3) := by decide +kernel
theorem dX7_goOn_65 : decode cX7_goOn 65 = .ok (.land, 1) := by decide +kernel
theorem dX7_goOn_66 : decode cX7_goOn 66 = .ok (.iload_n 3, 1) := by decide +kernel
theorem dX7_goOn_67 : decode cX7_goOn 67 = .ok (.iconst 1, 1) := by decide +kernel
theorem dX7_goOn_68 : decode cX7_goOn 68 = .ok (.iload 5, 2) := by decide +kernel
theorem dX7_goOn_70 : decode cX7_goOn 70 = .ok (.ishl, 1) := by decide +kernel
theorem dX7_goOn_71 : decode cX7_goOn 71 = .ok (.ior, 1) := by decide +kernel
theorem dX7_goOn_72 : decode cX7_goOn 72 = .ok (.iload 4, 2) := by decide +kernel
theorem dX7_goOn_74 : decode cX7_goOn 74 = .ok (.iconst 1, 1) := by decide +kernel
theorem dX7_goOn_75 : decode cX7_goOn 75 = .ok (.iadd, 1) := by decide +kernel
theorem dX7_goOn_76 : decode cX7_goOn 76 = .ok (.invokevirtual 59, 3) := by decide +kernel
theorem dX7_goOn_79 : decode cX7_goOn 79 = .ok (.return_, 1) := by decide +kernel
theorem dX7_end_0 : decode cX7_end 0 = .ok (.lload_n 1, 1) := by decide +kernel
theorem dX7_end_1 : decode cX7_end 1 = .ok (.invokestatic 65, 3) := by decide +kernel
theorem dX7_end_4 : decode cX7_end 4 = .ok (.istore 4, 2) := by decide +kernel
theorem dX7_end_6 : decode cX7_end 6 = .ok (.iconst 0, 1) := by decide +kernel
theorem dX7_end_7 : decode cX7_end 7 = .ok (.istore 5, 2) := by decide +kernel
theorem dX7_end_9 : decode cX7_end 9 = .ok (.iload 5, 2) := by decide +kernel
theorem dX7_end_11 : decode cX7_end 11 = .ok (.bipush 40, 2) := by decide +kernel
theorem dX7_end_13 : decode cX7_end 13 = .ok (.if_icmp .ge 37, 3) := by decide +kernel
theorem dX7_end_16 : decode cX7_end 16 = .ok (.lload_n 1, 1) := by decide +kernel
theorem dX7_end_17 : decode cX7_end 17 = .ok (.iload 5, 2) := by decide +kernel
theorem dX7_end_19 : decode cX7_end 19 = .ok (.lshr, 1) := by decide +kernel
theorem dX7_end_20 : decode cX7_end 20 = .ok (.lconst 1, 1) := by decide +kernel
theorem dX7_end_21 : decode cX7_end 21 = .ok (.land, 1) := by decide +kernel
theorem dX7_end_22 : decode cX7_end 22 = .ok (.lconst 0, 1) := by decide +kernel
theorem dX7_end_23 : decode cX7_end 23 = .ok (.lcmp, 1) := by decide +kernel
theorem dX7_end_24 : decode cX7_end 24 = .ok (.ifCond .eq 20, 3) := by decide +kernel
theorem dX7_end_27 : decode cX7_end 27 = .ok (.aload_n 0, 1) := by decide +kernel
theorem dX7_end_28 : decode cX7_end 28 = .ok (.getfield 23, 3) := by decide +kernel
theorem dX7_end_31 : decode cX7_end 31 = .ok (.iload 5, 2) := by decide +kernel
theorem dX7_end_33 : decode cX7_end 33 = .ok (.iload 4, 2) := by decide +kernel
theorem dX7_end_35 : decode cX7_end 35 = .ok (.iastore, 1) := by decide +kernel
theorem dX7_end_36 : decode cX7_end 36 = .ok (.aload_n 0, 1) := by decide +kernel
theorem dX7_end_37 : decode cX7_end 37 = .ok (.getfield 26, 3) := by decide +kernel
theorem dX7_end_40 : decode cX7_end 40 = .ok (.iload 5, 2) := by decide +kernel
theorem dX7_end_42 : decode cX7_end 42 = .ok (.iload_n 3, 1) := by decide +kernel
theorem dX7_end_43 : decode cX7_end 43 = .ok (.iastore, 1) := by decide +kernel
theorem dX7_end_44 : decode cX7_end 44 = .ok (.iinc 5 1, 3) := by decide +kernel
theorem dX7_end_47 : decode cX7_end 47 = .ok (.goto (-38), 3) := by decide +kernel
theorem dX7_end_50 : decode cX7_end 50 = .ok (.return_, 1) := by decide +kernel
theorem dX7_mostSteps_0 : decode cX7_mostSteps 0 = .ok (.iconst 0, 1) := by decide +kernel
theorem dX7_mostSteps_1 : decode cX7_mostSteps 1 = .ok (.istore_n 1, 1) := by decide +kernel
theorem dX7_mostSteps_2 : decode cX7_mostSteps 2 = .ok (.iconst 0, 1) := by decide +kernel
theorem dX7_mostSteps_3 : decode cX7_mostSteps 3 = .ok (.istore_n 2, 1) := by decide +kernel
theorem dX7_mostSteps_4 : decode cX7_mostSteps 4 = .ok (.iload_n 2, 1) := by decide +kernel
theorem dX7_mostSteps_5 : decode cX7_mostSteps 5 = .ok (.aload_n 0, 1) := by decide +kernel
theorem dX7_mostSteps_6 : decode cX7_mostSteps 6 = .ok (.getfield 29, 3) := by decide +kernel
theorem dX7_mostSteps_9 : decode cX7_mostSteps 9 = .ok (.if_icmp .ge 25, 3) := by decide +kernel
theorem dX7_mostSteps_12 : decode cX7_mostSteps 12 = .ok (.iload_n 1, 1) := by decide +kernel
theorem dX7_mostSteps_13 : decode cX7_mostSteps 13 = .ok (.aload_n 0, 1) := by decide +kernel
theorem dX7_mostSteps_14 : decode cX7_mostSteps 14 = .ok (.getfield 26, 3) := by decide +kernel
theorem dX7_mostSteps_17 : decode cX7_mostSteps 17 = .ok (.aload_n 0, 1) := by decide +kernel
theorem dX7_mostSteps_18 : decode cX7_mostSteps 18 = .ok (.getfield 19, 3) := by decide +kernel
theorem dX7_mostSteps_21 : decode cX7_mostSteps 21 = .ok (.iload_n 2, 1) := by decide +kernel
theorem dX7_mostSteps_22 : decode cX7_mostSteps 22 = .ok (.iaload, 1) := by decide +kernel
theorem dX7_mostSteps_23 : decode cX7_mostSteps 23 = .ok (.iaload, 1) := by decide +kernel
theorem dX7_mostSteps_24 : decode cX7_mostSteps 24 = .ok (.invokestatic 75, 3) := by decide +kernel
theorem dX7_mostSteps_27 : decode cX7_mostSteps 27 = .ok (.istore_n 1, 1) := by decide +kernel
theorem dX7_mostSteps_28 : decode cX7_mostSteps 28 = .ok (.iinc 2 1, 3) := by decide +kernel
theorem dX7_mostSteps_31 : decode cX7_mostSteps 31 = .ok (.goto (-27), 3) := by decide +kernel
theorem dX7_mostSteps_34 : decode cX7_mostSteps 34 = .ok (.iload_n 1, 1) := by decide +kernel
theorem dX7_mostSteps_35 : decode cX7_mostSteps 35 = .ok (.ireturn, 1) := by decide +kernel
theorem dX7_allSteps_0 : decode cX7_allSteps 0 = .ok (.iconst 0, 1) := by decide +kernel
theorem dX7_allSteps_1 : decode cX7_allSteps 1 = .ok (.istore_n 1, 1) := by decide +kernel
theorem dX7_allSteps_2 : decode cX7_allSteps 2 = .ok (.iconst 0, 1) := by decide +kernel
theorem dX7_allSteps_3 : decode cX7_allSteps 3 = .ok (.istore_n 2, 1) := by decide +kernel
theorem dX7_allSteps_4 : decode cX7_allSteps 4 = .ok (.iload_n 2, 1) := by decide +kernel
theorem dX7_allSteps_5 : decode cX7_allSteps 5 = .ok (.aload_n 0, 1) := by decide +kernel
theorem dX7_allSteps_6 : decode cX7_allSteps 6 = .ok (.getfield 29, 3) := by decide +kernel
theorem dX7_allSteps_9 : decode cX7_allSteps 9 = .ok (.if_icmp .ge 23, 3) := by decide +kernel
theorem dX7_allSteps_12 : decode cX7_allSteps 12 = .ok (.iload_n 1, 1) := by decide +kernel
theorem dX7_allSteps_13 : decode cX7_allSteps 13 = .ok (.aload_n 0, 1) := by decide +kernel
theorem dX7_allSteps_14 : decode cX7_allSteps 14 = .ok (.getfield 26, 3) := by decide +kernel
theorem dX7_allSteps_17 : decode cX7_allSteps 17 = .ok (.aload_n 0, 1) := by decide +kernel
theorem dX7_allSteps_18 : decode cX7_allSteps 18 = .ok (.getfield 19, 3) := by decide +kernel
theorem dX7_allSteps_21 : decode cX7_allSteps 21 = .ok (.iload_n 2, 1) := by decide +kernel
theorem dX7_allSteps_22 : decode cX7_allSteps 22 = .ok (.iaload, 1) := by decide +kernel
theorem dX7_allSteps_23 : decode cX7_allSteps 23 = .ok (.iaload, 1) := by decide +kernel
theorem dX7_allSteps_24 : decode cX7_allSteps 24 = .ok (.iadd, 1) := by decide +kernel
theorem dX7_allSteps_25 : decode cX7_allSteps 25 = .ok (.istore_n 1, 1) := by decide +kernel
theorem dX7_allSteps_26 : decode cX7_allSteps 26 = .ok (.iinc 2 1, 3) := by decide +kernel
theorem dX7_allSteps_29 : decode cX7_allSteps 29 = .ok (.goto (-25), 3) := by decide +kernel
theorem dX7_allSteps_32 : decode cX7_allSteps 32 = .ok (.iload_n 1, 1) := by decide +kernel
theorem dX7_allSteps_33 : decode cX7_allSteps 33 = .ok (.ireturn, 1) := by decide +kernel
theorem dX7_greatestRest_0 : decode cX7_greatestRest 0 = .ok (.iconst 0, 1) := by decide +kernel
theorem dX7_greatestRest_1 : decode cX7_greatestRest 1 = .ok (.istore_n 1, 1) := by decide +kernel
theorem dX7_greatestRest_2 : decode cX7_greatestRest 2 = .ok (.iconst 0, 1) := by decide +kernel
theorem dX7_greatestRest_3 : decode cX7_greatestRest 3 = .ok (.istore_n 2, 1) := by decide +kernel
theorem dX7_greatestRest_4 : decode cX7_greatestRest 4 = .ok (.iload_n 2, 1) := by decide +kernel
theorem dX7_greatestRest_5 : decode cX7_greatestRest 5 = .ok (.aload_n 0, 1) := by decide +kernel
theorem dX7_greatestRest_6 : decode cX7_greatestRest 6 = .ok (.getfield 29, 3) := by decide +kernel
theorem dX7_greatestRest_9 : decode cX7_greatestRest 9 = .ok (.if_icmp .ge 25, 3) := by decide +kernel
theorem dX7_greatestRest_12 : decode cX7_greatestRest 12 = .ok (.iload_n 1, 1) := by decide +kernel
theorem dX7_greatestRest_13 : decode cX7_greatestRest 13 = .ok (.aload_n 0, 1) := by decide +kernel
theorem dX7_greatestRest_14 : decode cX7_greatestRest 14 = .ok (.getfield 23, 3) := by decide +kernel
theorem dX7_greatestRest_17 : decode cX7_greatestRest 17 = .ok (.aload_n 0, 1) := by decide +kernel
theorem dX7_greatestRest_18 : decode cX7_greatestRest 18 = .ok (.getfield 19, 3) := by decide +kernel
theorem dX7_greatestRest_21 : decode cX7_greatestRest 21 = .ok (.iload_n 2, 1) := by decide +kernel
theorem dX7_greatestRest_22 : decode cX7_greatestRest 22 = .ok (.iaload, 1) := by decide +kernel
theorem dX7_greatestRest_23 : decode cX7_greatestRest 23 = .ok (.iaload, 1) := by decide +kernel
theorem dX7_greatestRest_24 : decode cX7_greatestRest 24 = .ok (.invokestatic 75, 3) := by decide +kernel
theorem dX7_greatestRest_27 : decode cX7_greatestRest 27 = .ok (.istore_n 1, 1) := by decide +kernel
theorem dX7_greatestRest_28 : decode cX7_greatestRest 28 = .ok (.iinc 2 1, 3) := by decide +kernel
theorem dX7_greatestRest_31 : decode cX7_greatestRest 31 = .ok (.goto (-27), 3) := by decide +kernel
theorem dX7_greatestRest_34 : decode cX7_greatestRest 34 = .ok (.iload_n 1, 1) := by decide +kernel
theorem dX7_greatestRest_35 : decode cX7_greatestRest 35 = .ok (.ireturn, 1) := by decide +kernel
theorem dX8_init_0 : decode cX8_init 0 = .ok (.aload_n 0, 1) := by decide +kernel
theorem dX8_init_1 : decode cX8_init 1 = .ok (.invokespecial 3, 3) := by decide +kernel
theorem dX8_init_4 : decode cX8_init 4 = .ok (.aload_n 0, 1) := by decide +kernel
theorem dX8_init_5 : decode cX8_init 5 = .ok (.bipush 12, 2) := by decide +kernel
theorem dX8_init_7 : decode cX8_init 7 = .ok (.newarray .int, 2) := by decide +kernel
theorem dX8_init_9 : decode cX8_init 9 = .ok (.putfield 9, 3) := by decide +kernel
theorem dX8_init_12 : decode cX8_init 12 = .ok (.aload_n 0, 1) := by decide +kernel
theorem dX8_init_13 : decode cX8_init 13 = .ok (.bipush 12, 2) := by decide +kernel
theorem dX8_init_15 : decode cX8_init 15 = .ok (.newarray .int, 2) := by decide +kernel
theorem dX8_init_17 : decode cX8_init 17 = .ok (.putfield 15, 3) := by decide +kernel
theorem dX8_init_20 : decode cX8_init 20 = .ok (.aload_n 0, 1) := by decide +kernel
theorem dX8_init_21 : decode cX8_init 21 = .ok (.iconst 0, 1) := by decide +kernel
theorem dX8_init_22 : decode cX8_init 22 = .ok (.putfield 18, 3) := by decide +kernel
theorem dX8_init_25 : decode cX8_init 25 = .ok (.aload_n 0, 1) := by decide +kernel
theorem dX8_init_26 : decode cX8_init 26 = .ok (.iconst 0, 1) := by decide +kernel
theorem dX8_init_27 : decode cX8_init 27 = .ok (.putfield 22, 3) := by decide +kernel
theorem dX8_init_30 : decode cX8_init 30 = .ok (.aload_n 0, 1) := by decide +kernel
theorem dX8_init_31 : decode cX8_init 31 = .ok (.aload_n 1, 1) := by decide +kernel
theorem dX8_init_32 : decode cX8_init 32 = .ok (.putfield 25, 3) := by decide +kernel
theorem dX8_init_35 : decode cX8_init 35 = .ok (.aload_n 0, 1) := by decide +kernel
theorem dX8_init_36 : decode cX8_init 36 = .ok (.getfield 9, 3) := by decide +kernel
theorem dX8_init_39 : decode cX8_init 39 = .ok (.iconst (-1), 1) := by decide +kernel
theorem dX8_init_40 : decode cX8_init 40 = .ok (.invokestatic 29, 3) := by decide +kernel
theorem dX8_init_43 : decode cX8_init 43 = .ok (.return_, 1) := by decide +kernel
theorem dX8_learn_0 : decode cX8_learn 0 = .ok (.iconst 0, 1) := by decide +kernel
theorem dX8_learn_1 : decode cX8_learn 1 = .ok (.istore_n 3, 1) := by decide +kernel
theorem dX8_learn_2 : decode cX8_learn 2 = .ok (.iload_n 3, 1) := by decide +kernel
theorem dX8_learn_3 : decode cX8_learn 3 = .ok (.bipush 12, 2) := by decide +kernel
theorem dX8_learn_5 : decode cX8_learn 5 = .ok (.if_icmp .ge 21, 3) := by decide +kernel
theorem dX8_learn_8 : decode cX8_learn 8 = .ok (.aload_n 0, 1) := by decide +kernel
theorem dX8_learn_9 : decode cX8_learn 9 = .ok (.getfield 9, 3) := by decide +kernel
theorem dX8_learn_12 : decode cX8_learn 12 = .ok (.iload_n 3, 1) := by decide +kernel
theorem dX8_learn_13 : decode cX8_learn 13 = .ok (.aload_n 2, 1) := by decide +kernel
theorem dX8_learn_14 : decode cX8_learn 14 = .ok (.iload_n 3, 1) := by decide +kernel
theorem dX8_learn_15 : decode cX8_learn 15 = .ok (.aload_n 1, 1) := by decide +kernel
theorem dX8_learn_16 : decode cX8_learn 16 = .ok (.invokevirtual 35, 3) := by decide +kernel
theorem dX8_learn_19 : decode cX8_learn 19 = .ok (.iastore, 1) := by decide +kernel
theorem dX8_learn_20 : decode cX8_learn 20 = .ok (.iinc 3 1, 3) := by decide +kernel
theorem dX8_learn_23 : decode cX8_learn 23 = .ok (.goto (-21), 3) := by decide +kernel
theorem dX8_learn_26 : decode cX8_learn 26 = .ok (.return_, 1) := by decide +kernel
theorem dX8_goFrom_0 : decode cX8_goFrom 0 = .ok (.aload_n 0, 1) := by decide +kernel
theorem dX8_goFrom_1 : decode cX8_goFrom 1 = .ok (.iconst 0, 1) := by decide +kernel
theorem dX8_goFrom_2 : decode cX8_goFrom 2 = .ok (.putfield 22, 3) := by decide +kernel
theorem dX8_goFrom_5 : decode cX8_goFrom 5 = .ok (.aload_n 0, 1) := by decide +kernel
theorem dX8_goFrom_6 : decode cX8_goFrom 6 = .ok (.iconst 0, 1) := by decide +kernel
theorem dX8_goFrom_7 : decode cX8_goFrom 7 = .ok (.putfield 18, 3) := by decide +kernel
theorem dX8_goFrom_10 : decode cX8_goFrom 10 = .ok (.aload_n 0, 1) := by decide +kernel
theorem dX8_goFrom_11 : decode cX8_goFrom 11 = .ok (.getfield 9, 3) := by decide +kernel
theorem dX8_goFrom_14 : decode cX8_goFrom 14 = .ok (.iload_n 1, 1) := by decide +kernel
theorem dX8_goFrom_15 : decode cX8_goFrom 15 = .ok (.iaload, 1) := by decide +kernel
theorem dX8_goFrom_16 : decode cX8_goFrom 16 = .ok (.iconst (-1), 1) := by decide +kernel
theorem dX8_goFrom_17 : decode cX8_goFrom 17 = .ok (.if_icmp .ne 7, 3) := by decide +kernel
theorem dX8_goFrom_20 : decode cX8_goFrom 20 = .ok (.iconst (-1), 1) := by decide +kernel
theorem dX8_goFrom_21 : decode cX8_goFrom 21 = .ok (.goto 4, 3) := by decide +kernel
theorem dX8_goFrom_24 : decode cX8_goFrom 24 = .ok (.iload_n 1, 1) := by decide +kernel
theorem dX8_goFrom_25 : decode cX8_goFrom 25 = .ok (.istore_n 2, 1) := by decide +kernel
theorem dX8_goFrom_26 : decode cX8_goFrom 26 = .ok (.iload_n 2, 1) := by decide +kernel
theorem dX8_goFrom_27 : decode cX8_goFrom 27 = .ok (.iconst (-1), 1) := by decide +kernel
theorem dX8_goFrom_28 : decode cX8_goFrom 28 = .ok (.if_icmp .eq 53, 3) := by decide +kernel
theorem dX8_goFrom_31 : decode cX8_goFrom 31 = .ok (.aload_n 0, 1) := by decide +kernel
theorem dX8_goFrom_32 : decode cX8_goFrom 32 = .ok (.getfield 22, 3) := by decide +kernel
theorem dX8_goFrom_35 : decode cX8_goFrom 35 = .ok (.bipush 12, 2) := by decide +kernel
theorem dX8_goFrom_37 : decode cX8_goFrom 37 = .ok (.if_icmp .ge 44, 3) := by decide +kernel
theorem dX8_goFrom_40 : decode cX8_goFrom 40 = .ok (.aload_n 0, 1) := by decide +kernel
theorem dX8_goFrom_41 : decode cX8_goFrom 41 = .ok (.getfield 15, 3) := by decide +kernel
theorem dX8_goFrom_44 : decode cX8_goFrom 44 = .ok (.aload_n 0, 1) := by decide +kernel
theorem dX8_goFrom_45 : decode cX8_goFrom 45 = .ok (.getfield 22, 3) := by decide +kernel
theorem dX8_goFrom_48 : decode cX8_goFrom 48 = .ok (.iload_n 2, 1) := by decide +kernel
theorem dX8_goFrom_49 : decode cX8_goFrom 49 = .ok (.iastore, 1) := by decide +kernel
theorem dX8_goFrom_50 : decode cX8_goFrom 50 = .ok (.aload_n 0, 1) := by decide +kernel
theorem dX8_goFrom_51 : decode cX8_goFrom 51 = .ok (.dup, 1) := by decide +kernel
theorem dX8_goFrom_52 : decode cX8_goFrom 52 = .ok (.getfield 22, 3) := by decide +kernel
theorem dX8_goFrom_55 : decode cX8_goFrom 55 = .ok (.iconst 1, 1) := by decide +kernel
theorem dX8_goFrom_56 : decode cX8_goFrom 56 = .ok (.iadd, 1) := by decide +kernel
theorem dX8_goFrom_57 : decode cX8_goFrom 57 = .ok (.putfield 22, 3) := by decide +kernel
theorem dX8_goFrom_60 : decode cX8_goFrom 60 = .ok (.aload_n 0, 1) := by decide +kernel
theorem dX8_goFrom_61 : decode cX8_goFrom 61 = .ok (.dup, 1) := by decide +kernel
theorem dX8_goFrom_62 : decode cX8_goFrom 62 = .ok (.getfield 18, 3) := by decide +kernel
theorem dX8_goFrom_65 : decode cX8_goFrom 65 = .ok (.iconst 1, 1) := by decide +kernel
theorem dX8_goFrom_66 : decode cX8_goFrom 66 = .ok (.iload_n 2, 1) := by decide +kernel
theorem dX8_goFrom_67 : decode cX8_goFrom 67 = .ok (.ishl, 1) := by decide +kernel
theorem dX8_goFrom_68 : decode cX8_goFrom 68 = .ok (.ior, 1) := by decide +kernel
theorem dX8_goFrom_69 : decode cX8_goFrom 69 = .ok (.putfield 18, 3) := by decide +kernel
theorem dX8_goFrom_72 : decode cX8_goFrom 72 = .ok (.aload_n 0, 1) := by decide +kernel
theorem dX8_goFrom_73 : decode cX8_goFrom 73 = .ok (.iload_n 2, 1) := by decide +kernel
theorem dX8_goFrom_74 : decode cX8_goFrom 74 = .ok (.invokevirtual 41, 3) := by decide +kernel
theorem dX8_goFrom_77 : decode cX8_goFrom 77 = .ok (.istore_n 2, 1) := by decide +kernel
theorem dX8_goFrom_78 : decode cX8_goFrom 78 = .ok (.goto (-52), 3) := by decide +kernel
theorem dX8_goFrom_81 : decode cX8_goFrom 81 = .ok (.return_, 1) := by decide +kernel
theorem dX8_source_0 : decode cX8_source 0 = .ok (.iconst (-1), 1) := by decide +kernel
theorem dX8_source_1 : decode cX8_source 1 = .ok (.istore_n 2, 1) := by decide +kernel
theorem dX8_source_2 : decode cX8_source 2 = .ok (.iconst 0, 1) := by decide +kernel
theorem dX8_source_3 : decode cX8_source 3 = .ok (.istore_n 3, 1) := by decide +kernel
theorem dX8_source_4 : decode cX8_source 4 = .ok (.iload_n 3, 1) := by decide +kernel
theorem dX8_source_5 : decode cX8_source 5 = .ok (.aload_n 0, 1) := by decide +kernel
theorem dX8_source_6 : decode cX8_source 6 = .ok (.getfield 25, 3) := by decide +kernel
theorem dX8_source_9 : decode cX8_source 9 = .ok (.iload_n 1, 1) := by decide +kernel
theorem dX8_source_10 : decode cX8_source 10 = .ok (.invokevirtual 45, 3) := by decide +kernel
theorem dX8_source_13 : decode cX8_source 13 = .ok (.if_icmp .ge 48, 3) := by decide +kernel
theorem dX8_source_16 : decode cX8_source 16 = .ok (.aload_n 0, 1) := by decide +kernel
theorem dX8_source_17 : decode cX8_source 17 = .ok (.getfield 25, 3) := by decide +kernel
theorem dX8_source_20 : decode cX8_source 20 = .ok (.iload_n 1, 1) := by decide +kernel
theorem dX8_source_21 : decode cX8_source 21 = .ok (.iload_n 3, 1) := by decide +kernel
theorem dX8_source_22 : decode cX8_source 22 = .ok (.invokevirtual 50, 3) := by decide +kernel
theorem dX8_source_25 : decode cX8_source 25 = .ok (.istore 4, 2) := by decide +kernel
theorem dX8_source_27 : decode cX8_source 27 = .ok (.aload_n 0, 1) := by decide +kernel
theorem dX8_source_28 : decode cX8_source 28 = .ok (.iload 4, 2) := by decide +kernel
theorem dX8_source_30 : decode cX8_source 30 = .ok (.iload_n 1, 1) := by decide +kernel
theorem dX8_source_31 : decode cX8_source 31 = .ok (.invokevirtual 54, 3) := by decide +kernel
theorem dX8_source_34 : decode cX8_source 34 = .ok (.ifCond .eq 21, 3) := by decide +kernel
theorem dX8_source_37 : decode cX8_source 37 = .ok (.iload_n 2, 1) := by decide +kernel
theorem dX8_source_38 : decode cX8_source 38 = .ok (.iconst (-1), 1) := by decide +kernel
theorem dX8_source_39 : decode cX8_source 39 = .ok (.if_icmp .eq 13, 3) := by decide +kernel
theorem dX8_source_42 : decode cX8_source 42 = .ok (.aload_n 0, 1) := by decide +kernel
theorem dX8_source_43 : decode cX8_source 43 = .ok (.iload 4, 2) := by decide +kernel
theorem dX8_source_45 : decode cX8_source 45 = .ok (.iload_n 2, 1) := by decide +kernel
theorem dX8_source_46 : decode cX8_source 46 = .ok (.invokevirtual 58, 3) := by decide +kernel
theorem dX8_source_49 : decode cX8_source 49 = .ok (.ifCond .eq 6, 3) := by decide +kernel
theorem dX8_source_52 : decode cX8_source 52 = .ok (.iload 4, 2) := by decide +kernel
theorem dX8_source_54 : decode cX8_source 54 = .ok (.istore_n 2, 1) := by decide +kernel
theorem dX8_source_55 : decode cX8_source 55 = .ok (.iinc 3 1, 3) := by decide +kernel
theorem dX8_source_58 : decode cX8_source 58 = .ok (.goto (-54), 3) := by decide +kernel
theorem dX8_source_61 : decode cX8_source 61 = .ok (.iload_n 2, 1) := by decide +kernel
theorem dX8_source_62 : decode cX8_source 62 = .ok (.ireturn, 1) := by decide +kernel
theorem dX8_leadsTo_0 : decode cX8_leadsTo 0 = .ok (.aload_n 0, 1) := by decide +kernel
theorem dX8_leadsTo_1 : decode cX8_leadsTo 1 = .ok (.getfield 25, 3) := by decide +kernel
theorem dX8_leadsTo_4 : decode cX8_leadsTo 4 = .ok (.iload_n 1, 1) := by decide +kernel
theorem dX8_leadsTo_5 : decode cX8_leadsTo 5 = .ok (.invokevirtual 61, 3) := by decide +kernel
theorem dX8_leadsTo_8 : decode cX8_leadsTo 8 = .ok (.ifCond .eq 24, 3) := by decide +kernel
theorem dX8_leadsTo_11 : decode cX8_leadsTo 11 = .ok (.aload_n 0, 1) := by decide +kernel
theorem dX8_leadsTo_12 : decode cX8_leadsTo 12 = .ok (.getfield 9, 3) := by decide +kernel
theorem dX8_leadsTo_15 : decode cX8_leadsTo 15 = .ok (.iload_n 1, 1) := by decide +kernel
theorem dX8_leadsTo_16 : decode cX8_leadsTo 16 = .ok (.iaload, 1) := by decide +kernel
theorem dX8_leadsTo_17 : decode cX8_leadsTo 17 = .ok (.iconst (-1), 1) := by decide +kernel
theorem dX8_leadsTo_18 : decode cX8_leadsTo 18 = .ok (.if_icmp .eq 14, 3) := by decide +kernel
theorem dX8_leadsTo_21 : decode cX8_leadsTo 21 = .ok (.aload_n 0, 1) := by decide +kernel
theorem dX8_leadsTo_22 : decode cX8_leadsTo 22 = .ok (.getfield 18, 3) := by decide +kernel
theorem dX8_leadsTo_25 : decode cX8_leadsTo 25 = .ok (.iload_n 1, 1) := by decide +kernel
theorem dX8_leadsTo_26 : decode cX8_leadsTo 26 = .ok (.ishr, 1) := by decide +kernel
theorem dX8_leadsTo_27 : decode cX8_leadsTo 27 = .ok (.iconst 1, 1) := by decide +kernel
theorem dX8_leadsTo_28 : decode cX8_leadsTo 28 = .ok (.iand, 1) := by decide +kernel
theorem dX8_leadsTo_29 : decode cX8_leadsTo 29 = .ok (.ifCond .eq 5, 3) := by decide +kernel
theorem dX8_leadsTo_32 : decode cX8_leadsTo 32 = .ok (.iconst 0, 1) := by decide +kernel
theorem dX8_leadsTo_33 : decode cX8_leadsTo 33 = .ok (.ireturn, 1) := by decide +kernel
theorem dX8_leadsTo_34 : decode cX8_leadsTo 34 = .ok (.aload_n 0, 1) := by decide +kernel
theorem dX8_leadsTo_35 : decode cX8_leadsTo 35 = .ok (.getfield 9, 3) := by decide +kernel
theorem dX8_leadsTo_38 : decode cX8_leadsTo 38 = .ok (.iload_n 1, 1) := by decide +kernel
theorem dX8_leadsTo_39 : decode cX8_leadsTo 39 = .ok (.iaload, 1) := by decide +kernel
theorem dX8_leadsTo_40 : decode cX8_leadsTo 40 = .ok (.aload_n 0, 1) := by decide +kernel
theorem dX8_leadsTo_41 : decode cX8_leadsTo 41 = .ok (.getfield 9, 3) := by decide +kernel
theorem dX8_leadsTo_44 : decode cX8_leadsTo 44 = .ok (.iload_n 2, 1) := by decide +kernel
theorem dX8_leadsTo_45 : decode cX8_leadsTo 45 = .ok (.iaload, 1) := by decide +kernel
theorem dX8_leadsTo_46 : decode cX8_leadsTo 46 = .ok (.if_icmp .lt 31, 3) := by decide +kernel
theorem dX8_leadsTo_49 : decode cX8_leadsTo 49 = .ok (.aload_n 0, 1) := by decide +kernel
theorem dX8_leadsTo_50 : decode cX8_leadsTo 50 = .ok (.getfield 9, 3) := by decide +kernel
theorem dX8_leadsTo_53 : decode cX8_leadsTo 53 = .ok (.iload_n 1, 1) := by decide +kernel
theorem dX8_leadsTo_54 : decode cX8_leadsTo 54 = .ok (.iaload, 1) := by decide +kernel
theorem dX8_leadsTo_55 : decode cX8_leadsTo 55 = .ok (.aload_n 0, 1) := by decide +kernel
theorem dX8_leadsTo_56 : decode cX8_leadsTo 56 = .ok (.getfield 9, 3) := by decide +kernel
theorem dX8_leadsTo_59 : decode cX8_leadsTo 59 = .ok (.iload_n 2, 1) := by decide +kernel
theorem dX8_leadsTo_60 : decode cX8_leadsTo 60 = .ok (.iaload, 1) := by decide +kernel
theorem dX8_leadsTo_61 : decode cX8_leadsTo 61 = .ok (.if_icmp .ne 20, 3) := by decide +kernel
theorem dX8_leadsTo_64 : decode cX8_leadsTo 64 = .ok (.aload_n 0, 1) := by decide +kernel
theorem dX8_leadsTo_65 : decode cX8_leadsTo 65 = .ok (.getfield 25, 3) := by decide +kernel
theorem dX8_leadsTo_68 : decode cX8_leadsTo 68 = .ok (.getfield 65, 3) := by decide +kernel
theorem dX8_leadsTo_71 : decode cX8_leadsTo 71 = .ok (.iload_n 2, 1) := by decide +kernel
theorem dX8_leadsTo_72 : decode cX8_leadsTo 72 = .ok (.iaload, 1) := by decide +kernel
theorem dX8_leadsTo_73 : decode cX8_leadsTo 73 = .ok (.iconst 5, 1) := by decide +kernel
theorem dX8_leadsTo_74 : decode cX8_leadsTo 74 = .ok (.if_icmp .eq 7, 3) := by decide +kernel
theorem dX8_leadsTo_77 : decode cX8_leadsTo 77 = .ok (.iconst 1, 1) := by decide +kernel
theorem dX8_leadsTo_78 : decode cX8_leadsTo 78 = .ok (.goto 4, 3) := by decide +kernel
theorem dX8_leadsTo_81 : decode cX8_leadsTo 81 = .ok (.iconst 0, 1) := by decide +kernel
theorem dX8_leadsTo_82 : decode cX8_leadsTo 82 = .ok (.ireturn, 1) := by decide +kernel
theorem dX8_isSooner_0 : decode cX8_isSooner 0 = .ok (.aload_n 0, 1) := by decide +kernel
theorem dX8_isSooner_1 : decode cX8_isSooner 1 = .ok (.getfield 9, 3) := by decide +kernel
theorem dX8_isSooner_4 : decode cX8_isSooner 4 = .ok (.iload_n 1, 1) := by decide +kernel
theorem dX8_isSooner_5 : decode cX8_isSooner 5 = .ok (.iaload, 1) := by decide +kernel
theorem dX8_isSooner_6 : decode cX8_isSooner 6 = .ok (.aload_n 0, 1) := by decide +kernel
theorem dX8_isSooner_7 : decode cX8_isSooner 7 = .ok (.getfield 9, 3) := by decide +kernel
theorem dX8_isSooner_10 : decode cX8_isSooner 10 = .ok (.iload_n 2, 1) := by decide +kernel
theorem dX8_isSooner_11 : decode cX8_isSooner 11 = .ok (.iaload, 1) := by decide +kernel
theorem dX8_isSooner_12 : decode cX8_isSooner 12 = .ok (.if_icmp .lt 23, 3) := by decide +kernel
theorem dX8_isSooner_15 : decode cX8_isSooner 15 = .ok (.aload_n 0, 1) := by decide +kernel
theorem dX8_isSooner_16 : decode cX8_isSooner 16 = .ok (.getfield 9, 3) := by decide +kernel
theorem dX8_isSooner_19 : decode cX8_isSooner 19 = .ok (.iload_n 1, 1) := by decide +kernel
theorem dX8_isSooner_20 : decode cX8_isSooner 20 = .ok (.iaload, 1) := by decide +kernel
theorem dX8_isSooner_21 : decode cX8_isSooner 21 = .ok (.aload_n 0, 1) := by decide +kernel
theorem dX8_isSooner_22 : decode cX8_isSooner 22 = .ok (.getfield 9, 3) := by decide +kernel
theorem dX8_isSooner_25 : decode cX8_isSooner 25 = .ok (.iload_n 2, 1) := by decide +kernel
theorem dX8_isSooner_26 : decode cX8_isSooner 26 = .ok (.iaload, 1) := by decide +kernel
theorem dX8_isSooner_27 : decode cX8_isSooner 27 = .ok (.if_icmp .ne 12, 3) := by decide +kernel
theorem dX8_isSooner_30 : decode cX8_isSooner 30 = .ok (.iload_n 1, 1) := by decide +kernel
theorem dX8_isSooner_31 : decode cX8_isSooner 31 = .ok (.iload_n 2, 1) := by decide +kernel
theorem dX8_isSooner_32 : decode cX8_isSooner 32 = .ok (.if_icmp .ge 7, 3) := by decide +kernel
theorem dX8_isSooner_35 : decode cX8_isSooner 35 = .ok (.iconst 1, 1) := by decide +kernel
theorem dX8_isSooner_36 : decode cX8_isSooner 36 = .ok (.goto 4, 3) := by decide +kernel
theorem dX8_isSooner_39 : decode cX8_isSooner 39 = .ok (.iconst 0, 1) := by decide +kernel
theorem dX8_isSooner_40 : decode cX8_isSooner 40 = .ok (.ireturn, 1) := by decide +kernel
theorem dX8_at_0 : decode cX8_at 0 = .ok (.iload_n 1, 1) := by decide +kernel
theorem dX8_at_1 : decode cX8_at 1 = .ok (.ifCond .lt 20, 3) := by decide +kernel
theorem dX8_at_4 : decode cX8_at 4 = .ok (.iload_n 1, 1) := by decide +kernel
theorem dX8_at_5 : decode cX8_at 5 = .ok (.aload_n 0, 1) := by decide +kernel
theorem dX8_at_6 : decode cX8_at 6 = .ok (.getfield 22, 3) := by decide +kernel
theorem dX8_at_9 : decode cX8_at 9 = .ok (.if_icmp .ge 12, 3) := by decide +kernel
theorem dX8_at_12 : decode cX8_at 12 = .ok (.aload_n 0, 1) := by decide +kernel
theorem dX8_at_13 : decode cX8_at 13 = .ok (.getfield 15, 3) := by decide +kernel
theorem dX8_at_16 : decode cX8_at 16 = .ok (.iload_n 1, 1) := by decide +kernel
theorem dX8_at_17 : decode cX8_at 17 = .ok (.iaload, 1) := by decide +kernel
theorem dX8_at_18 : decode cX8_at 18 = .ok (.goto 4, 3) := by decide +kernel
theorem dX8_at_21 : decode cX8_at 21 = .ok (.iconst (-1), 1) := by decide +kernel
theorem dX8_at_22 : decode cX8_at 22 = .ok (.ireturn, 1) := by decide +kernel
theorem dX9_init_0 : decode cX9_init 0 = .ok (.aload_n 0, 1) := by decide +kernel
theorem dX9_init_1 : decode cX9_init 1 = .ok (.invokespecial 1, 3) := by decide +kernel
theorem dX9_init_4 : decode cX9_init 4 = .ok (.aload_n 0, 1) := by decide +kernel
theorem dX9_init_5 : decode cX9_init 5 = .ok (.new 7, 3) := by decide +kernel
theorem dX9_init_8 : decode cX9_init 8 = .ok (.dup, 1) := by decide +kernel
theorem dX9_init_9 : decode cX9_init 9 = .ok (.invokespecial 9, 3) := by decide +kernel
theorem dX9_init_12 : decode cX9_init 12 = .ok (.putfield 10, 3) := by decide +kernel
theorem dX9_init_15 : decode cX9_init 15 = .ok (.aload_n 0, 1) := by decide +kernel
theorem dX9_init_16 : decode cX9_init 16 = .ok (.new 16, 3) := by decide +kernel
theorem dX9_init_19 : decode cX9_init 19 = .ok (.dup, 1) := by decide +kernel
theorem dX9_init_20 : decode cX9_init 20 = .ok (.invokespecial 18, 3) := by decide +kernel
theorem dX9_init_23 : decode cX9_init 23 = .ok (.putfield 19, 3) := by decide +kernel
theorem dX9_init_26 : decode cX9_init 26 = .ok (.aload_n 0, 1) := by decide +kernel
theorem dX9_init_27 : decode cX9_init 27 = .ok (.new 16, 3) := by decide +kernel
theorem dX9_init_30 : decode cX9_init 30 = .ok (.dup, 1) := by decide +kernel
theorem dX9_init_31 : decode cX9_init 31 = .ok (.invokespecial 18, 3) := by decide +kernel
theorem dX9_init_34 : decode cX9_init 34 = .ok (.putfield 23, 3) := by decide +kernel
theorem dX9_init_37 : decode cX9_init 37 = .ok (.aload_n 0, 1) := by decide +kernel
theorem dX9_init_38 : decode cX9_init 38 = .ok (.new 26, 3) := by decide +kernel
theorem dX9_init_41 : decode cX9_init 41 = .ok (.dup, 1) := by decide +kernel
theorem dX9_init_42 : decode cX9_init 42 = .ok (.invokespecial 28, 3) := by decide +kernel
theorem dX9_init_45 : decode cX9_init 45 = .ok (.putfield 29, 3) := by decide +kernel
theorem dX9_init_48 : decode cX9_init 48 = .ok (.aload_n 0, 1) := by decide +kernel
theorem dX9_init_49 : decode cX9_init 49 = .ok (.new 33, 3) := by decide +kernel
theorem dX9_init_52 : decode cX9_init 52 = .ok (.dup, 1) := by decide +kernel
theorem dX9_init_53 : decode cX9_init 53 = .ok (.aload_n 0, 1) := by decide +kernel
theorem dX9_init_54 : decode cX9_init 54 = .ok (.getfield 19, 3) := by decide +kernel
theorem dX9_init_57 : decode cX9_init 57 = .ok (.aload_n 0, 1) := by decide +kernel
theorem dX9_init_58 : decode cX9_init 58 = .ok (.getfield 29, 3) := by decide +kernel
theorem dX9_init_61 : decode cX9_init 61 = .ok (.invokespecial 35, 3) := by decide +kernel
theorem dX9_init_64 : decode cX9_init 64 = .ok (.putfield 38, 3) := by decide +kernel
theorem dX9_init_67 : decode cX9_init 67 = .ok (.aload_n 0, 1) := by decide +kernel
theorem dX9_init_68 : decode cX9_init 68 = .ok (.new 42, 3) := by decide +kernel
theorem dX9_init_71 : decode cX9_init 71 = .ok (.dup, 1) := by decide +kernel
theorem dX9_init_72 : decode cX9_init 72 = .ok (.invokespecial 44, 3) := by decide +kernel
theorem dX9_init_75 : decode cX9_init 75 = .ok (.putfield 45, 3) := by decide +kernel
theorem dX9_init_78 : decode cX9_init 78 = .ok (.aload_n 0, 1) := by decide +kernel
theorem dX9_init_79 : decode cX9_init 79 = .ok (.new 42, 3) := by decide +kernel
theorem dX9_init_82 : decode cX9_init 82 = .ok (.dup, 1) := by decide +kernel
theorem dX9_init_83 : decode cX9_init 83 = .ok (.invokespecial 44, 3) := by decide +kernel
theorem dX9_init_86 : decode cX9_init 86 = .ok (.putfield 49, 3) := by decide +kernel
theorem dX9_init_89 : decode cX9_init 89 = .ok (.aload_n 0, 1) := by decide +kernel
theorem dX9_init_90 : decode cX9_init 90 = .ok (.new 52, 3) := by decide +kernel
theorem dX9_init_93 : decode cX9_init 93 = .ok (.dup, 1) := by decide +kernel
theorem dX9_init_94 : decode cX9_init 94 = .ok (.invokespecial 54, 3) := by decide +kernel
theorem dX9_init_97 : decode cX9_init 97 = .ok (.putfield 55, 3) := by decide +kernel
theorem dX9_init_100 : decode cX9_init 100 = .ok (.aload_n 0, 1) := by decide +kernel
theorem dX9_init_101 : decode cX9_init 101 = .ok (.new 59, 3) := by decide +kernel
theorem dX9_init_104 : decode cX9_init 104 = .ok (.dup, 1) := by decide +kernel
theorem dX9_init_105 : decode cX9_init 105 = .ok (.invokespecial 61, 3) := by decide +kernel
theorem dX9_init_108 : decode cX9_init 108 = .ok (.putfield 62, 3) := by decide +kernel
theorem dX9_init_111 : decode cX9_init 111 = .ok (.aload_n 0, 1) := by decide +kernel
theorem dX9_init_112 : decode cX9_init 112 = .ok (.new 66, 3) := by decide +kernel
theorem dX9_init_115 : decode cX9_init 115 = .ok (.dup, 1) := by decide +kernel
theorem dX9_init_116 : decode cX9_init 116 = .ok (.invokespecial 68, 3) := by decide +kernel
theorem dX9_init_119 : decode cX9_init 119 = .ok (.putfield 69, 3) := by decide +kernel
theorem dX9_init_122 : decode cX9_init 122 = .ok (.aload_n 0, 1) := by decide +kernel
theorem dX9_init_123 : decode cX9_init 123 = .ok (.new 73, 3) := by decide +kernel
theorem dX9_init_126 : decode cX9_init 126 = .ok (.dup, 1) := by decide +kernel
theorem dX9_init_127 : decode cX9_init 127 = .ok (.aload_n 0, 1) := by decide +kernel
theorem dX9_init_128 : decode cX9_init 128 = .ok (.getfield 19, 3) := by decide +kernel
theorem dX9_init_131 : decode cX9_init 131 = .ok (.invokespecial 75, 3) := by decide +kernel
theorem dX9_init_134 : decode cX9_init 134 = .ok (.putfield 78, 3) := by decide +kernel
theorem dX9_init_137 : decode cX9_init 137 = .ok (.aload_n 0, 1) := by decide +kernel
theorem dX9_init_138 : decode cX9_init 138 = .ok (.iconst 0, 1) := by decide +kernel
theorem dX9_init_139 : decode cX9_init 139 = .ok (.putfield 82, 3) := by decide +kernel
theorem dX9_init_142 : decode cX9_init 142 = .ok (.aload_n 0, 1) := by decide +kernel
theorem dX9_init_143 : decode cX9_init 143 = .ok (.iconst 0, 1) := by decide +kernel
theorem dX9_init_144 : decode cX9_init 144 = .ok (.putfield 86, 3) := by decide +kernel
theorem dX9_init_147 : decode cX9_init 147 = .ok (.aload_n 0, 1) := by decide +kernel
theorem dX9_init_148 : decode cX9_init 148 = .ok (.iconst 0, 1) := by decide +kernel
theorem dX9_init_149 : decode cX9_init 149 = .ok (.putfield 89, 3) := by decide +kernel
theorem dX9_init_152 : decode cX9_init 152 = .ok (.return_, 1) := by decide +kernel
theorem dX9_letter_0 : decode cX9_letter 0 = .ok (.iload_n 1, 1) := by decide +kernel
theorem dX9_letter_1 : decode cX9_letter 1 = .ok (.bipush 32, 2) := by decide +kernel
theorem dX9_letter_3 : decode cX9_letter 3 = .ok (.if_icmp .lt 9, 3) := by decide +kernel
theorem dX9_letter_6 : decode cX9_letter 6 = .ok (.iload_n 1, 1) := by decide +kernel
theorem dX9_letter_7 : decode cX9_letter 7 = .ok (.bipush 126, 2) := by decide +kernel
theorem dX9_letter_9 : decode cX9_letter 9 = .ok (.if_icmp .le 7, 3) := by decide +kernel
theorem dX9_letter_12 : decode cX9_letter 12 = .ok (.sipush (-1002), 3) := by decide +kernel
theorem dX9_letter_15 : decode cX9_letter 15 = .ok (.ireturn, 1) := by decide +kernel
theorem dX9_letter_16 : decode cX9_letter 16 = .ok (.aload_n 0, 1) := by decide +kernel
theorem dX9_letter_17 : decode cX9_letter 17 = .ok (.getfield 10, 3) := by decide +kernel
theorem dX9_letter_20 : decode cX9_letter 20 = .ok (.getfield 92, 3) := by decide +kernel
theorem dX9_letter_23 : decode cX9_letter 23 = .ok (.bipush 40, 2) := by decide +kernel
theorem dX9_letter_25 : decode cX9_letter 25 = .ok (.if_icmp .lt 7, 3) := by decide +kernel
theorem dX9_letter_28 : decode cX9_letter 28 = .ok (.sipush (-1004), 3) := by decide +kernel
theorem dX9_letter_31 : decode cX9_letter 31 = .ok (.ireturn, 1) := by decide +kernel
theorem dX9_letter_32 : decode cX9_letter 32 = .ok (.aload_n 0, 1) := by decide +kernel
theorem dX9_letter_33 : decode cX9_letter 33 = .ok (.getfield 10, 3) := by decide +kernel
theorem dX9_letter_36 : decode cX9_letter 36 = .ok (.iload_n 1, 1) := by decide +kernel
theorem dX9_letter_37 : decode cX9_letter 37 = .ok (.invokevirtual 95, 3) := by decide +kernel
theorem dX9_letter_40 : decode cX9_letter 40 = .ok (.aload_n 0, 1) := by decide +kernel
theorem dX9_letter_41 : decode cX9_letter 41 = .ok (.getfield 10, 3) := by decide +kernel
theorem dX9_letter_44 : decode cX9_letter 44 = .ok (.getfield 92, 3) := by decide +kernel
theorem dX9_letter_47 : decode cX9_letter 47 = .ok (.ireturn, 1) := by decide +kernel
theorem dX9_blank_0 : decode cX9_blank 0 = .ok (.aload_n 0, 1) := by decide +kernel
theorem dX9_blank_1 : decode cX9_blank 1 = .ok (.getfield 10, 3) := by decide +kernel
theorem dX9_blank_4 : decode cX9_blank 4 = .ok (.getfield 92, 3) := by decide +kernel
theorem dX9_blank_7 : decode cX9_blank 7 = .ok (.istore_n 1, 1) := by decide +kernel
theorem dX9_blank_8 : decode cX9_blank 8 = .ok (.aload_n 0, 1) := by decide +kernel
theorem dX9_blank_9 : decode cX9_blank 9 = .ok (.getfield 10, 3) := by decide +kernel
theorem dX9_blank_12 : decode cX9_blank 12 = .ok (.invokevirtual 99, 3) := by decide +kernel
theorem dX9_blank_15 : decode cX9_blank 15 = .ok (.iload_n 1, 1) := by decide +kernel
theorem dX9_blank_16 : decode cX9_blank 16 = .ok (.ireturn, 1) := by decide +kernel
theorem dX9_fault_0 : decode cX9_fault 0 = .ok (.iload_n 1, 1) := by decide +kernel
theorem dX9_fault_1 : decode cX9_fault 1 = .ok (.ifCond .eq 13, 3) := by decide +kernel
theorem dX9_fault_4 : decode cX9_fault 4 = .ok (.aload_n 0, 1) := by decide +kernel
theorem dX9_fault_5 : decode cX9_fault 5 = .ok (.getfield 10, 3) := by decide +kernel
theorem dX9_fault_8 : decode cX9_fault 8 = .ok (.invokestatic 102, 3) := by decide +kernel
theorem dX9_fault_11 : decode cX9_fault 11 = .ok (.goto 14, 3) := by decide +kernel
theorem dX9_fault_14 : decode cX9_fault 14 = .ok (.aload_n 0, 1) := by decide +kernel
theorem dX9_fault_15 : decode cX9_fault 15 = .ok (.getfield 23, 3) := by decide +kernel
theorem dX9_fault_18 : decode cX9_fault 18 = .ok (.aload_n 0, 1) := by decide +kernel
theorem dX9_fault_19 : decode cX9_fault 19 = .ok (.getfield 10, 3) := by decide +kernel
theorem dX9_fault_22 : decode cX9_fault 22 = .ok (.invokevirtual 106, 3) := by decide +kernel
theorem dX9_fault_25 : decode cX9_fault 25 = .ok (.ireturn, 1) := by decide +kernel
theorem dX9_board_0 : decode cX9_board 0 = .ok (.aload_n 0, 1) := by decide +kernel
theorem dX9_board_1 : decode cX9_board 1 = .ok (.getfield 23, 3) := by decide +kernel
theorem dX9_board_4 : decode cX9_board 4 = .ok (.aload_n 0, 1) := by decide +kernel
theorem dX9_board_5 : decode cX9_board 5 = .ok (.getfield 10, 3) := by decide +kernel
theorem dX9_board_8 : decode cX9_board 8 = .ok (.invokevirtual 106, 3) := by decide +kernel
theorem dX9_board_11 : decode cX9_board 11 = .ok (.istore_n 1, 1) := by decide +kernel
theorem dX9_board_12 : decode cX9_board 12 = .ok (.iload_n 1, 1) := by decide +kernel
theorem dX9_board_13 : decode cX9_board 13 = .ok (.aload_n 0, 1) := by decide +kernel
theorem dX9_board_14 : decode cX9_board 14 = .ok (.getfield 10, 3) := by decide +kernel
theorem dX9_board_17 : decode cX9_board 17 = .ok (.getfield 92, 3) := by decide +kernel
theorem dX9_board_20 : decode cX9_board 20 = .ok (.if_icmp .lt 23, 3) := by decide +kernel
theorem dX9_board_23 : decode cX9_board 23 = .ok (.aload_n 0, 1) := by decide +kernel
theorem dX9_board_24 : decode cX9_board 24 = .ok (.getfield 23, 3) := by decide +kernel
theorem dX9_board_27 : decode cX9_board 27 = .ok (.invokevirtual 109, 3) := by decide +kernel
theorem dX9_board_30 : decode cX9_board 30 = .ok (.ifCond .eq 13, 3) := by decide +kernel
theorem dX9_board_33 : decode cX9_board 33 = .ok (.aload_n 0, 1) := by decide +kernel
theorem dX9_board_34 : decode cX9_board 34 = .ok (.getfield 23, 3) := by decide +kernel
theorem dX9_board_37 : decode cX9_board 37 = .ok (.invokevirtual 113, 3) := by decide +kernel
theorem dX9_board_40 : decode cX9_board 40 = .ok (.ifCond .ne 7, 3) := by decide +kernel
theorem dX9_board_43 : decode cX9_board 43 = .ok (.sipush (-1003), 3) := by decide +kernel
theorem dX9_board_46 : decode cX9_board 46 = .ok (.ireturn, 1) := by decide +kernel
theorem dX9_board_47 : decode cX9_board 47 = .ok (.aload_n 0, 1) := by decide +kernel
theorem dX9_board_48 : decode cX9_board 48 = .ok (.getfield 19, 3) := by decide +kernel
theorem dX9_board_51 : decode cX9_board 51 = .ok (.aload_n 0, 1) := by decide +kernel
theorem dX9_board_52 : decode cX9_board 52 = .ok (.getfield 23, 3) := by decide +kernel
theorem dX9_board_55 : decode cX9_board 55 = .ok (.invokevirtual 116, 3) := by decide +kernel
theorem dX9_board_58 : decode cX9_board 58 = .ok (.aload_n 0, 1) := by decide +kernel
theorem dX9_board_59 : decode cX9_board 59 = .ok (.getfield 10, 3) := by decide +kernel
theorem dX9_board_62 : decode cX9_board 62 = .ok (.invokevirtual 99, 3) := by decide +kernel
theorem dX9_board_65 : decode cX9_board 65 = .ok (.aload_n 0, 1) := by decide +kernel
theorem dX9_board_66 : decode cX9_board 66 = .ok (.dup, 1) := by decide +kernel
theorem dX9_board_67 : decode cX9_board 67 = .ok (.getfield 86, 3) := by decide +kernel
theorem dX9_board_70 : decode cX9_board 70 = .ok (.iconst 1, 1) := by decide +kernel
theorem dX9_board_71 : decode cX9_board 71 = .ok (.iadd, 1) := by decide +kernel
theorem dX9_board_72 : decode cX9_board 72 = .ok (.putfield 86, 3) := by decide +kernel
theorem dX9_board_75 : decode cX9_board 75 = .ok (.aload_n 0, 1) := by decide +kernel
theorem dX9_board_76 : decode cX9_board 76 = .ok (.iconst 0, 1) := by decide +kernel
theorem dX9_board_77 : decode cX9_board 77 = .ok (.putfield 82, 3) := by decide +kernel
theorem dX9_board_80 : decode cX9_board 80 = .ok (.aload_n 0, 1) := by decide +kernel
theorem dX9_board_81 : decode cX9_board 81 = .ok (.invokevirtual 119, 3) := by decide +kernel
theorem dX9_board_84 : decode cX9_board 84 = .ok (.aload_n 0, 1) := by decide +kernel
theorem dX9_board_85 : decode cX9_board 85 = .ok (.invokevirtual 122, 3) := by decide +kernel
theorem dX9_board_88 : decode cX9_board 88 = .ok (.aload_n 0, 1) := by decide +kernel
theorem dX9_board_89 : decode cX9_board 89 = .ok (.getfield 19, 3) := by decide +kernel
theorem dX9_board_92 : decode cX9_board 92 = .ok (.getfield 125, 3) := by decide +kernel
theorem dX9_board_95 : decode cX9_board 95 = .ok (.ireturn, 1) := by decide +kernel
theorem dX9_stimulus_0 : decode cX9_stimulus 0 = .ok (.aload_n 0, 1) := by decide +kernel
theorem dX9_stimulus_1 : decode cX9_stimulus 1 = .ok (.getfield 10, 3) := by decide +kernel
theorem dX9_stimulus_4 : decode cX9_stimulus 4 = .ok (.getfield 92, 3) := by decide +kernel
theorem dX9_stimulus_7 : decode cX9_stimulus 7 = .ok (.ifCond .eq 20, 3) := by decide +kernel
theorem dX9_stimulus_10 : decode cX9_stimulus 10 = .ok (.aload_n 0, 1) := by decide +kernel
theorem dX9_stimulus_11 : decode cX9_stimulus 11 = .ok (.getfield 10, 3) := by decide +kernel
theorem dX9_stimulus_14 : decode cX9_stimulus 14 = .ok (.invokestatic 102, 3) := by decide +kernel
theorem dX9_stimulus_17 : decode cX9_stimulus 17 = .ok (.aload_n 0, 1) := by decide +kernel
theorem dX9_stimulus_18 : decode cX9_stimulus 18 = .ok (.getfield 10, 3) := by decide +kernel
theorem dX9_stimulus_21 : decode cX9_stimulus 21 = .ok (.getfield 92, 3) := by decide +kernel
theorem dX9_stimulus_24 : decode cX9_stimulus 24 = .ok (.if_icmp .ge 7, 3) := by decide +kernel
theorem dX9_stimulus_27 : decode cX9_stimulus 27 = .ok (.sipush (-1003), 3) := by decide +kernel
theorem dX9_stimulus_30 : decode cX9_stimulus 30 = .ok (.ireturn, 1) := by decide +kernel
theorem dX9_stimulus_31 : decode cX9_stimulus 31 = .ok (.aload_n 0, 1) := by decide +kernel
theorem dX9_stimulus_32 : decode cX9_stimulus 32 = .ok (.getfield 29, 3) := by decide +kernel
theorem dX9_stimulus_35 : decode cX9_stimulus 35 = .ok (.aload_n 0, 1) := by decide +kernel
theorem dX9_stimulus_36 : decode cX9_stimulus 36 = .ok (.getfield 10, 3) := by decide +kernel
theorem dX9_stimulus_39 : decode cX9_stimulus 39 = .ok (.invokevirtual 128, 3) := by decide +kernel
theorem dX9_stimulus_42 : decode cX9_stimulus 42 = .ok (.aload_n 0, 1) := by decide +kernel
theorem dX9_stimulus_43 : decode cX9_stimulus 43 = .ok (.getfield 10, 3) := by decide +kernel
theorem dX9_stimulus_46 : decode cX9_stimulus 46 = .ok (.invokevirtual 99, 3) := by decide +kernel
theorem dX9_stimulus_49 : decode cX9_stimulus 49 = .ok (.aload_n 0, 1) := by decide +kernel
theorem dX9_stimulus_50 : decode cX9_stimulus 50 = .ok (.dup, 1) := by decide +kernel
theorem dX9_stimulus_51 : decode cX9_stimulus 51 = .ok (.getfield 89, 3) := by decide +kernel
theorem dX9_stimulus_54 : decode cX9_stimulus 54 = .ok (.iconst 1, 1) := by decide +kernel
theorem dX9_stimulus_55 : decode cX9_stimulus 55 = .ok (.iadd, 1) := by decide +kernel
theorem dX9_stimulus_56 : decode cX9_stimulus 56 = .ok (.putfield 89, 3) := by decide +kernel
theorem dX9_stimulus_59 : decode cX9_stimulus 59 = .ok (.aload_n 0, 1) := by decide +kernel
theorem dX9_stimulus_60 : decode cX9_stimulus 60 = .ok (.invokevirtual 119, 3) := by decide +kernel
theorem dX9_stimulus_63 : decode cX9_stimulus 63 = .ok (.aload_n 0, 1) := by decide +kernel
theorem dX9_stimulus_64 : decode cX9_stimulus 64 = .ok (.invokevirtual 122, 3) := by decide +kernel
theorem dX9_stimulus_67 : decode cX9_stimulus 67 = .ok (.aload_n 0, 1) := by decide +kernel
theorem dX9_stimulus_68 : decode cX9_stimulus 68 = .ok (.getfield 29, 3) := by decide +kernel
theorem dX9_stimulus_71 : decode cX9_stimulus 71 = .ok (.getfield 131, 3) := by decide +kernel
theorem dX9_stimulus_74 : decode cX9_stimulus 74 = .ok (.ireturn, 1) := by decide +kernel
theorem dX9_hurt_0 : decode cX9_hurt 0 = .ok (.iload_n 1, 1) := by decide +kernel
theorem dX9_hurt_1 : decode cX9_hurt 1 = .ok (.ifCond .eq 19, 3) := by decide +kernel
theorem dX9_hurt_4 : decode cX9_hurt 4 = .ok (.aload_n 0, 1) := by decide +kernel
theorem dX9_hurt_5 : decode cX9_hurt 5 = .ok (.getfield 55, 3) := by decide +kernel
theorem dX9_hurt_8 : decode cX9_hurt 8 = .ok (.iload_n 1, 1) := by decide +kernel
theorem dX9_hurt_9 : decode cX9_hurt 9 = .ok (.invokevirtual 134, 3) := by decide +kernel
theorem dX9_hurt_12 : decode cX9_hurt 12 = .ok (.iconst (-1), 1) := by decide +kernel
theorem dX9_hurt_13 : decode cX9_hurt 13 = .ok (.if_icmp .ne 7, 3) := by decide +kernel
theorem dX9_hurt_16 : decode cX9_hurt 16 = .ok (.sipush (-1001), 3) := by decide +kernel
theorem dX9_hurt_19 : decode cX9_hurt 19 = .ok (.ireturn, 1) := by decide +kernel
theorem dX9_hurt_20 : decode cX9_hurt 20 = .ok (.aload_n 0, 1) := by decide +kernel
theorem dX9_hurt_21 : decode cX9_hurt 21 = .ok (.getfield 82, 3) := by decide +kernel
theorem dX9_hurt_24 : decode cX9_hurt 24 = .ok (.istore_n 2, 1) := by decide +kernel
theorem dX9_hurt_25 : decode cX9_hurt 25 = .ok (.aload_n 0, 1) := by decide +kernel
theorem dX9_hurt_26 : decode cX9_hurt 26 = .ok (.iload_n 1, 1) := by decide +kernel
theorem dX9_hurt_27 : decode cX9_hurt 27 = .ok (.putfield 82, 3) := by decide +kernel
theorem dX9_hurt_30 : decode cX9_hurt 30 = .ok (.aload_n 0, 1) := by decide +kernel
theorem dX9_hurt_31 : decode cX9_hurt 31 = .ok (.invokevirtual 122, 3) := by decide +kernel
theorem dX9_hurt_34 : decode cX9_hurt 34 = .ok (.iload_n 2, 1) := by decide +kernel
theorem dX9_hurt_35 : decode cX9_hurt 35 = .ok (.ireturn, 1) := by decide +kernel
theorem dX9_node_0 : decode cX9_node 0 = .ok (.aload_n 0, 1) := by decide +kernel
theorem dX9_node_1 : decode cX9_node 1 = .ok (.getfield 19, 3) := by decide +kernel
theorem dX9_node_4 : decode cX9_node 4 = .ok (.iload_n 1, 1) := by decide +kernel
theorem dX9_node_5 : decode cX9_node 5 = .ok (.invokevirtual 138, 3) := by decide +kernel
theorem dX9_node_8 : decode cX9_node 8 = .ok (.ifCond .ne 7, 3) := by decide +kernel
theorem dX9_node_11 : decode cX9_node 11 = .ok (.sipush (-1001), 3) := by decide +kernel
theorem dX9_node_14 : decode cX9_node 14 = .ok (.ireturn, 1) := by decide +kernel
theorem dX9_node_15 : decode cX9_node 15 = .ok (.iload_n 2, 1) := by decide +kernel
theorem dX9_node_16 : decode cX9_node 16 = .ok (.tableswitch 167 0 9 #[56, 66, 76, 86, 96, 106, 116, 126, 147, 157], 56) := by decide +kernel
theorem dX9_node_72 : decode cX9_node 72 = .ok (.aload_n 0, 1) := by decide +kernel
theorem dX9_node_73 : decode cX9_node 73 = .ok (.getfield 19, 3) := by decide +kernel
theorem dX9_node_76 : decode cX9_node 76 = .ok (.getfield 142, 3) := by decide +kernel
theorem dX9_node_79 : decode cX9_node 79 = .ok (.iload_n 1, 1) := by decide +kernel
theorem dX9_node_80 : decode cX9_node 80 = .ok (.iaload, 1) := by decide +kernel
theorem dX9_node_81 : decode cX9_node 81 = .ok (.ireturn, 1) := by decide +kernel
theorem dX9_node_82 : decode cX9_node 82 = .ok (.aload_n 0, 1) := by decide +kernel
theorem dX9_node_83 : decode cX9_node 83 = .ok (.getfield 19, 3) := by decide +kernel
theorem dX9_node_86 : decode cX9_node 86 = .ok (.iload_n 1, 1) := by decide +kernel
theorem dX9_node_87 : decode cX9_node 87 = .ok (.iconst 0, 1) := by decide +kernel
theorem dX9_node_88 : decode cX9_node 88 = .ok (.invokevirtual 146, 3) := by decide +kernel
theorem dX9_node_91 : decode cX9_node 91 = .ok (.ireturn, 1) := by decide +kernel
theorem dX9_node_92 : decode cX9_node 92 = .ok (.aload_n 0, 1) := by decide +kernel
theorem dX9_node_93 : decode cX9_node 93 = .ok (.getfield 19, 3) := by decide +kernel
theorem dX9_node_96 : decode cX9_node 96 = .ok (.iload_n 1, 1) := by decide +kernel
theorem dX9_node_97 : decode cX9_node 97 = .ok (.iconst 1, 1) := by decide +kernel
theorem dX9_node_98 : decode cX9_node 98 = .ok (.invokevirtual 146, 3) := by decide +kernel
theorem dX9_node_101 : decode cX9_node 101 = .ok (.ireturn, 1) := by decide +kernel
theorem dX9_node_102 : decode cX9_node 102 = .ok (.aload_n 0, 1) := by decide +kernel
theorem dX9_node_103 : decode cX9_node 103 = .ok (.getfield 45, 3) := by decide +kernel
theorem dX9_node_106 : decode cX9_node 106 = .ok (.getfield 150, 3) := by decide +kernel
theorem dX9_node_109 : decode cX9_node 109 = .ok (.iload_n 1, 1) := by decide +kernel
theorem dX9_node_110 : decode cX9_node 110 = .ok (.iaload, 1) := by decide +kernel
theorem dX9_node_111 : decode cX9_node 111 = .ok (.ireturn, 1) := by decide +kernel
theorem dX9_node_112 : decode cX9_node 112 = .ok (.aload_n 0, 1) := by decide +kernel
theorem dX9_node_113 : decode cX9_node 113 = .ok (.getfield 45, 3) := by decide +kernel
theorem dX9_node_116 : decode cX9_node 116 = .ok (.getfield 153, 3) := by decide +kernel
theorem dX9_node_119 : decode cX9_node 119 = .ok (.iload_n 1, 1) := by decide +kernel
theorem dX9_node_120 : decode cX9_node 120 = .ok (.iaload, 1) := by decide +kernel
theorem dX9_node_121 : decode cX9_node 121 = .ok (.ireturn, 1) := by decide +kernel
theorem dX9_node_122 : decode cX9_node 122 = .ok (.aload_n 0, 1) := by decide +kernel
theorem dX9_node_123 : decode cX9_node 123 = .ok (.getfield 49, 3) := by decide +kernel
theorem dX9_node_126 : decode cX9_node 126 = .ok (.getfield 150, 3) := by decide +kernel
theorem dX9_node_129 : decode cX9_node 129 = .ok (.iload_n 1, 1) := by decide +kernel
theorem dX9_node_130 : decode cX9_node 130 = .ok (.iaload, 1) := by decide +kernel
theorem dX9_node_131 : decode cX9_node 131 = .ok (.ireturn, 1) := by decide +kernel
theorem dX9_node_132 : decode cX9_node 132 = .ok (.aload_n 0, 1) := by decide +kernel
theorem dX9_node_133 : decode cX9_node 133 = .ok (.getfield 49, 3) := by decide +kernel
theorem dX9_node_136 : decode cX9_node 136 = .ok (.getfield 153, 3) := by decide +kernel
theorem dX9_node_139 : decode cX9_node 139 = .ok (.iload_n 1, 1) := by decide +kernel
theorem dX9_node_140 : decode cX9_node 140 = .ok (.iaload, 1) := by decide +kernel
theorem dX9_node_141 : decode cX9_node 141 = .ok (.ireturn, 1) := by decide +kernel
theorem dX9_node_142 : decode cX9_node 142 = .ok (.aload_n 0, 1) := by decide +kernel
theorem dX9_node_143 : decode cX9_node 143 = .ok (.getfield 49, 3) := by decide +kernel
theorem dX9_node_146 : decode cX9_node 146 = .ok (.iload_n 1, 1) := by decide +kernel
theorem dX9_node_147 : decode cX9_node 147 = .ok (.aload_n 0, 1) := by decide +kernel
theorem dX9_node_148 : decode cX9_node 148 = .ok (.getfield 45, 3) := by decide +kernel
theorem dX9_node_151 : decode cX9_node 151 = .ok (.invokevirtual 156, 3) := by decide +kernel
theorem dX9_node_154 : decode cX9_node 154 = .ok (.ifCond .eq 7, 3) := by decide +kernel
theorem dX9_node_157 : decode cX9_node 157 = .ok (.iconst 1, 1) := by decide +kernel
theorem dX9_node_158 : decode cX9_node 158 = .ok (.goto 4, 3) := by decide +kernel
theorem dX9_node_161 : decode cX9_node 161 = .ok (.iconst 0, 1) := by decide +kernel
theorem dX9_node_162 : decode cX9_node 162 = .ok (.ireturn, 1) := by decide +kernel
theorem dX9_node_163 : decode cX9_node 163 = .ok (.aload_n 0, 1) := by decide +kernel
theorem dX9_node_164 : decode cX9_node 164 = .ok (.getfield 78, 3) := by decide +kernel
theorem dX9_node_167 : decode cX9_node 167 = .ok (.getfield 160, 3) := by decide +kernel
theorem dX9_node_170 : decode cX9_node 170 = .ok (.iload_n 1, 1) := by decide +kernel
theorem dX9_node_171 : decode cX9_node 171 = .ok (.iaload, 1) := by decide +kernel
theorem dX9_node_172 : decode cX9_node 172 = .ok (.ireturn, 1) := by decide +kernel
theorem dX9_node_173 : decode cX9_node 173 = .ok (.aload_n 0, 1) := by decide +kernel
theorem dX9_node_174 : decode cX9_node 174 = .ok (.getfield 62, 3) := by decide +kernel
theorem dX9_node_177 : decode cX9_node 177 = .ok (.getfield 163, 3) := by decide +kernel
theorem dX9_node_180 : decode cX9_node 180 = .ok (.iload_n 1, 1) := by decide +kernel
theorem dX9_node_181 : decode cX9_node 181 = .ok (.iaload, 1) := by decide +kernel
theorem dX9_node_182 : decode cX9_node 182 = .ok (.ireturn, 1) := by decide +kernel
theorem dX9_node_183 : decode cX9_node 183 = .ok (.sipush (-1002), 3) := by decide +kernel
theorem dX9_node_186 : decode cX9_node 186 = .ok (.ireturn, 1) := by decide +kernel
theorem dX9_shows_0 : decode cX9_shows 0 = .ok (.aload_n 0, 1) := by decide +kernel
theorem dX9_shows_1 : decode cX9_shows 1 = .ok (.getfield 55, 3) := by decide +kernel
theorem dX9_shows_4 : decode cX9_shows 4 = .ok (.iload_n 1, 1) := by decide +kernel
theorem dX9_shows_5 : decode cX9_shows 5 = .ok (.invokevirtual 134, 3) := by decide +kernel
theorem dX9_shows_8 : decode cX9_shows 8 = .ok (.istore_n 3, 1) := by decide +kernel
theorem dX9_shows_9 : decode cX9_shows 9 = .ok (.iload_n 3, 1) := by decide +kernel
theorem dX9_shows_10 : decode cX9_shows 10 = .ok (.iconst (-1), 1) := by decide +kernel
theorem dX9_shows_11 : decode cX9_shows 11 = .ok (.if_icmp .ne 7, 3) := by decide +kernel
theorem dX9_shows_14 : decode cX9_shows 14 = .ok (.sipush (-1001), 3) := by decide +kernel
theorem dX9_shows_17 : decode cX9_shows 17 = .ok (.ireturn, 1) := by decide +kernel
theorem dX9_shows_18 : decode cX9_shows 18 = .ok (.iload_n 2, 1) := by decide +kernel
theorem dX9_shows_19 : decode cX9_shows 19 = .ok (.lookupswitch 45 #[(0, 25), (1, 35)], 25) := by decide +kernel
theorem dX9_shows_44 : decode cX9_shows 44 = .ok (.aload_n 0, 1) := by decide +kernel
theorem dX9_shows_45 : decode cX9_shows 45 = .ok (.getfield 55, 3) := by decide +kernel
theorem dX9_shows_48 : decode cX9_shows 48 = .ok (.getfield 166, 3) := by decide +kernel
theorem dX9_shows_51 : decode cX9_shows 51 = .ok (.iload_n 3, 1) := by decide +kernel
theorem dX9_shows_52 : decode cX9_shows 52 = .ok (.iaload, 1) := by decide +kernel
theorem dX9_shows_53 : decode cX9_shows 53 = .ok (.ireturn, 1) := by decide +kernel
theorem dX9_shows_54 : decode cX9_shows 54 = .ok (.aload_n 0, 1) := by decide +kernel
theorem dX9_shows_55 : decode cX9_shows 55 = .ok (.getfield 55, 3) := by decide +kernel
theorem dX9_shows_58 : decode cX9_shows 58 = .ok (.getfield 169, 3) := by decide +kernel
theorem dX9_shows_61 : decode cX9_shows 61 = .ok (.iload_n 3, 1) := by decide +kernel
theorem dX9_shows_62 : decode cX9_shows 62 = .ok (.iaload, 1) := by decide +kernel
theorem dX9_shows_63 : decode cX9_shows 63 = .ok (.ireturn, 1) := by decide +kernel
theorem dX9_shows_64 : decode cX9_shows 64 = .ok (.sipush (-1002), 3) := by decide +kernel
theorem dX9_shows_67 : decode cX9_shows 67 = .ok (.ireturn, 1) := by decide +kernel
theorem dX9_probe_0 : decode cX9_probe 0 = .ok (.aload_n 0, 1) := by decide +kernel
theorem dX9_probe_1 : decode cX9_probe 1 = .ok (.getfield 19, 3) := by decide +kernel
theorem dX9_probe_4 : decode cX9_probe 4 = .ok (.iload_n 1, 1) := by decide +kernel
theorem dX9_probe_5 : decode cX9_probe 5 = .ok (.invokevirtual 138, 3) := by decide +kernel
theorem dX9_probe_8 : decode cX9_probe 8 = .ok (.ifCond .ne 7, 3) := by decide +kernel
theorem dX9_probe_11 : decode cX9_probe 11 = .ok (.sipush (-1001), 3) := by decide +kernel
theorem dX9_probe_14 : decode cX9_probe 14 = .ok (.ireturn, 1) := by decide +kernel
theorem dX9_probe_15 : decode cX9_probe 15 = .ok (.aload_n 0, 1) := by decide +kernel
theorem dX9_probe_16 : decode cX9_probe 16 = .ok (.getfield 62, 3) := by decide +kernel
theorem dX9_probe_19 : decode cX9_probe 19 = .ok (.getfield 163, 3) := by decide +kernel
theorem dX9_probe_22 : decode cX9_probe 22 = .ok (.iload_n 1, 1) := by decide +kernel
theorem dX9_probe_23 : decode cX9_probe 23 = .ok (.iaload, 1) := by decide +kernel
theorem dX9_probe_24 : decode cX9_probe 24 = .ok (.iconst (-1), 1) := by decide +kernel
theorem dX9_probe_25 : decode cX9_probe 25 = .ok (.if_icmp .eq 7, 3) := by decide +kernel
theorem dX9_probe_28 : decode cX9_probe 28 = .ok (.sipush (-1003), 3) := by decide +kernel
theorem dX9_probe_31 : decode cX9_probe 31 = .ok (.ireturn, 1) := by decide +kernel
theorem dX9_probe_32 : decode cX9_probe 32 = .ok (.aload_n 0, 1) := by decide +kernel
theorem dX9_probe_33 : decode cX9_probe 33 = .ok (.getfield 62, 3) := by decide +kernel
theorem dX9_probe_36 : decode cX9_probe 36 = .ok (.iload_n 1, 1) := by decide +kernel
theorem dX9_probe_37 : decode cX9_probe 37 = .ok (.aload_n 0, 1) := by decide +kernel
theorem dX9_probe_38 : decode cX9_probe 38 = .ok (.getfield 49, 3) := by decide +kernel
theorem dX9_probe_41 : decode cX9_probe 41 = .ok (.iload_n 1, 1) := by decide +kernel
theorem dX9_probe_42 : decode cX9_probe 42 = .ok (.aload_n 0, 1) := by decide +kernel
theorem dX9_probe_43 : decode cX9_probe 43 = .ok (.getfield 45, 3) := by decide +kernel
theorem dX9_probe_46 : decode cX9_probe 46 = .ok (.invokevirtual 156, 3) := by decide +kernel
theorem dX9_probe_49 : decode cX9_probe 49 = .ok (.invokevirtual 172, 3) := by decide +kernel
theorem dX9_probe_52 : decode cX9_probe 52 = .ok (.aload_n 0, 1) := by decide +kernel
theorem dX9_probe_53 : decode cX9_probe 53 = .ok (.getfield 69, 3) := by decide +kernel
theorem dX9_probe_56 : decode cX9_probe 56 = .ok (.aload_n 0, 1) := by decide +kernel
theorem dX9_probe_57 : decode cX9_probe 57 = .ok (.getfield 62, 3) := by decide +kernel
theorem dX9_probe_60 : decode cX9_probe 60 = .ok (.invokevirtual 176, 3) := by decide +kernel
theorem dX9_probe_63 : decode cX9_probe 63 = .ok (.aload_n 0, 1) := by decide +kernel
theorem dX9_probe_64 : decode cX9_probe 64 = .ok (.getfield 62, 3) := by decide +kernel
theorem dX9_probe_67 : decode cX9_probe 67 = .ok (.getfield 163, 3) := by decide +kernel
theorem dX9_probe_70 : decode cX9_probe 70 = .ok (.iload_n 1, 1) := by decide +kernel
theorem dX9_probe_71 : decode cX9_probe 71 = .ok (.iaload, 1) := by decide +kernel
theorem dX9_probe_72 : decode cX9_probe 72 = .ok (.ireturn, 1) := by decide +kernel
theorem dX9_forget_0 : decode cX9_forget 0 = .ok (.aload_n 0, 1) := by decide +kernel
theorem dX9_forget_1 : decode cX9_forget 1 = .ok (.getfield 62, 3) := by decide +kernel
theorem dX9_forget_4 : decode cX9_forget 4 = .ok (.getfield 180, 3) := by decide +kernel
theorem dX9_forget_7 : decode cX9_forget 7 = .ok (.istore_n 1, 1) := by decide +kernel
theorem dX9_forget_8 : decode cX9_forget 8 = .ok (.aload_n 0, 1) := by decide +kernel
theorem dX9_forget_9 : decode cX9_forget 9 = .ok (.invokevirtual 183, 3) := by decide +kernel
theorem dX9_forget_12 : decode cX9_forget 12 = .ok (.iload_n 1, 1) := by decide +kernel
theorem dX9_forget_13 : decode cX9_forget 13 = .ok (.ireturn, 1) := by decide +kernel
theorem dX9_suspects_0 : decode cX9_suspects 0 = .ok (.iload_n 1, 1) := by decide +kernel
theorem dX9_suspects_1 : decode cX9_suspects 1 = .ok (.tableswitch 75 0 4 #[35, 43, 51, 59, 67], 35) := by decide +kernel
theorem dX9_suspects_36 : decode cX9_suspects 36 = .ok (.aload_n 0, 1) := by decide +kernel
theorem dX9_suspects_37 : decode cX9_suspects 37 = .ok (.getfield 69, 3) := by decide +kernel
theorem dX9_suspects_40 : decode cX9_suspects 40 = .ok (.getfield 186, 3) := by decide +kernel
theorem dX9_suspects_43 : decode cX9_suspects 43 = .ok (.ireturn, 1) := by decide +kernel
theorem dX9_suspects_44 : decode cX9_suspects 44 = .ok (.aload_n 0, 1) := by decide +kernel
theorem dX9_suspects_45 : decode cX9_suspects 45 = .ok (.getfield 69, 3) := by decide +kernel
theorem dX9_suspects_48 : decode cX9_suspects 48 = .ok (.getfield 187, 3) := by decide +kernel
theorem dX9_suspects_51 : decode cX9_suspects 51 = .ok (.ireturn, 1) := by decide +kernel
theorem dX9_suspects_52 : decode cX9_suspects 52 = .ok (.aload_n 0, 1) := by decide +kernel
theorem dX9_suspects_53 : decode cX9_suspects 53 = .ok (.getfield 69, 3) := by decide +kernel
theorem dX9_suspects_56 : decode cX9_suspects 56 = .ok (.invokevirtual 190, 3) := by decide +kernel
theorem dX9_suspects_59 : decode cX9_suspects 59 = .ok (.ireturn, 1) := by decide +kernel
theorem dX9_suspects_60 : decode cX9_suspects 60 = .ok (.aload_n 0, 1) := by decide +kernel
theorem dX9_suspects_61 : decode cX9_suspects 61 = .ok (.getfield 69, 3) := by decide +kernel
theorem dX9_suspects_64 : decode cX9_suspects 64 = .ok (.invokevirtual 194, 3) := by decide +kernel
theorem dX9_suspects_67 : decode cX9_suspects 67 = .ok (.ireturn, 1) := by decide +kernel
theorem dX9_suspects_68 : decode cX9_suspects 68 = .ok (.aload_n 0, 1) := by decide +kernel
theorem dX9_suspects_69 : decode cX9_suspects 69 = .ok (.getfield 69, 3) := by decide +kernel
theorem dX9_suspects_72 : decode cX9_suspects 72 = .ok (.invokevirtual 197, 3) := by decide +kernel
theorem dX9_suspects_75 : decode cX9_suspects 75 = .ok (.ireturn, 1) := by decide +kernel
theorem dX9_suspects_76 : decode cX9_suspects 76 = .ok (.sipush (-1002), 3) := by decide +kernel
theorem dX9_suspects_79 : decode cX9_suspects 79 = .ok (.ireturn, 1) := by decide +kernel
theorem dX9_suspect_0 : decode cX9_suspect 0 = .ok (.iload_n 1, 1) := by decide +kernel
theorem dX9_suspect_1 : decode cX9_suspect 1 = .ok (.ifCond .lt 14, 3) := by decide +kernel
theorem dX9_suspect_4 : decode cX9_suspect 4 = .ok (.iload_n 1, 1) := by decide +kernel
theorem dX9_suspect_5 : decode cX9_suspect 5 = .ok (.aload_n 0, 1) := by decide +kernel
theorem dX9_suspect_6 : decode cX9_suspect 6 = .ok (.getfield 69, 3) := by decide +kernel
theorem dX9_suspect_9 : decode cX9_suspect 9 = .ok (.getfield 186, 3) := by decide +kernel
theorem dX9_suspect_12 : decode cX9_suspect 12 = .ok (.if_icmp .lt 7, 3) := by decide +kernel
theorem dX9_suspect_15 : decode cX9_suspect 15 = .ok (.sipush (-1001), 3) := by decide +kernel
theorem dX9_suspect_18 : decode cX9_suspect 18 = .ok (.ireturn, 1) := by decide +kernel
theorem dX9_suspect_19 : decode cX9_suspect 19 = .ok (.aload_n 0, 1) := by decide +kernel
theorem dX9_suspect_20 : decode cX9_suspect 20 = .ok (.getfield 69, 3) := by decide +kernel
theorem dX9_suspect_23 : decode cX9_suspect 23 = .ok (.getfield 200, 3) := by decide +kernel
theorem dX9_suspect_26 : decode cX9_suspect 26 = .ok (.iload_n 1, 1) := by decide +kernel
theorem dX9_suspect_27 : decode cX9_suspect 27 = .ok (.iaload, 1) := by decide +kernel
theorem dX9_suspect_28 : decode cX9_suspect 28 = .ok (.istore_n 3, 1) := by decide +kernel
theorem dX9_suspect_29 : decode cX9_suspect 29 = .ok (.iload_n 2, 1) := by decide +kernel
theorem dX9_suspect_30 : decode cX9_suspect 30 = .ok (.tableswitch 56 0 2 #[26, 36, 46], 26) := by decide +kernel
theorem dX9_suspect_56 : decode cX9_suspect 56 = .ok (.aload_n 0, 1) := by decide +kernel
theorem dX9_suspect_57 : decode cX9_suspect 57 = .ok (.getfield 55, 3) := by decide +kernel
theorem dX9_suspect_60 : decode cX9_suspect 60 = .ok (.getfield 203, 3) := by decide +kernel
theorem dX9_suspect_63 : decode cX9_suspect 63 = .ok (.iload_n 3, 1) := by decide +kernel
theorem dX9_suspect_64 : decode cX9_suspect 64 = .ok (.iaload, 1) := by decide +kernel
theorem dX9_suspect_65 : decode cX9_suspect 65 = .ok (.ireturn, 1) := by decide +kernel
theorem dX9_suspect_66 : decode cX9_suspect 66 = .ok (.aload_n 0, 1) := by decide +kernel
theorem dX9_suspect_67 : decode cX9_suspect 67 = .ok (.getfield 69, 3) := by decide +kernel
theorem dX9_suspect_70 : decode cX9_suspect 70 = .ok (.getfield 206, 3) := by decide +kernel
theorem dX9_suspect_73 : decode cX9_suspect 73 = .ok (.iload_n 3, 1) := by decide +kernel
theorem dX9_suspect_74 : decode cX9_suspect 74 = .ok (.iaload, 1) := by decide +kernel
theorem dX9_suspect_75 : decode cX9_suspect 75 = .ok (.ireturn, 1) := by decide +kernel
theorem dX9_suspect_76 : decode cX9_suspect 76 = .ok (.aload_n 0, 1) := by decide +kernel
theorem dX9_suspect_77 : decode cX9_suspect 77 = .ok (.getfield 69, 3) := by decide +kernel
theorem dX9_suspect_80 : decode cX9_suspect 80 = .ok (.getfield 209, 3) := by decide +kernel
theorem dX9_suspect_83 : decode cX9_suspect 83 = .ok (.iload_n 3, 1) := by decide +kernel
theorem dX9_suspect_84 : decode cX9_suspect 84 = .ok (.iaload, 1) := by decide +kernel
theorem dX9_suspect_85 : decode cX9_suspect 85 = .ok (.ireturn, 1) := by decide +kernel
theorem dX9_suspect_86 : decode cX9_suspect 86 = .ok (.sipush (-1002), 3) := by decide +kernel
theorem dX9_suspect_89 : decode cX9_suspect 89 = .ok (.ireturn, 1) := by decide +kernel
theorem dX9_way_0 : decode cX9_way 0 = .ok (.aload_n 0, 1) := by decide +kernel
theorem dX9_way_1 : decode cX9_way 1 = .ok (.getfield 19, 3) := by decide +kernel
theorem dX9_way_4 : decode cX9_way 4 = .ok (.iload_n 1, 1) := by decide +kernel
theorem dX9_way_5 : decode cX9_way 5 = .ok (.invokevirtual 138, 3) := by decide +kernel
theorem dX9_way_8 : decode cX9_way 8 = .ok (.ifCond .ne 7, 3) := by decide +kernel
theorem dX9_way_11 : decode cX9_way 11 = .ok (.sipush (-1001), 3) := by decide +kernel
theorem dX9_way_14 : decode cX9_way 14 = .ok (.ireturn, 1) := by decide +kernel
theorem dX9_way_15 : decode cX9_way 15 = .ok (.aload_n 0, 1) := by decide +kernel
theorem dX9_way_16 : decode cX9_way 16 = .ok (.getfield 78, 3) := by decide +kernel
theorem dX9_way_19 : decode cX9_way 19 = .ok (.iload_n 1, 1) := by decide +kernel
theorem dX9_way_20 : decode cX9_way 20 = .ok (.invokevirtual 212, 3) := by decide +kernel
theorem dX9_way_23 : decode cX9_way 23 = .ok (.aload_n 0, 1) := by decide +kernel
theorem dX9_way_24 : decode cX9_way 24 = .ok (.getfield 78, 3) := by decide +kernel
theorem dX9_way_27 : decode cX9_way 27 = .ok (.iload_n 2, 1) := by decide +kernel
theorem dX9_way_28 : decode cX9_way 28 = .ok (.invokevirtual 215, 3) := by decide +kernel
theorem dX9_way_31 : decode cX9_way 31 = .ok (.ireturn, 1) := by decide +kernel
theorem dX9_place_0 : decode cX9_place 0 = .ok (.aload_n 0, 1) := by decide +kernel
theorem dX9_place_1 : decode cX9_place 1 = .ok (.getfield 19, 3) := by decide +kernel
theorem dX9_place_4 : decode cX9_place 4 = .ok (.iload_n 1, 1) := by decide +kernel
theorem dX9_place_5 : decode cX9_place 5 = .ok (.invokevirtual 138, 3) := by decide +kernel
theorem dX9_place_8 : decode cX9_place 8 = .ok (.ifCond .ne 7, 3) := by decide +kernel
theorem dX9_place_11 : decode cX9_place 11 = .ok (.sipush (-1001), 3) := by decide +kernel
theorem dX9_place_14 : decode cX9_place 14 = .ok (.ireturn, 1) := by decide +kernel
theorem dX9_place_15 : decode cX9_place 15 = .ok (.aload_n 0, 1) := by decide +kernel
theorem dX9_place_16 : decode cX9_place 16 = .ok (.getfield 78, 3) := by decide +kernel
theorem dX9_place_19 : decode cX9_place 19 = .ok (.iload_n 1, 1) := by decide +kernel
theorem dX9_place_20 : decode cX9_place 20 = .ok (.invokevirtual 212, 3) := by decide +kernel
theorem dX9_place_23 : decode cX9_place 23 = .ok (.aload_n 0, 1) := by decide +kernel
theorem dX9_place_24 : decode cX9_place 24 = .ok (.getfield 78, 3) := by decide +kernel
theorem dX9_place_27 : decode cX9_place 27 = .ok (.aload_n 0, 1) := by decide +kernel
theorem dX9_place_28 : decode cX9_place 28 = .ok (.getfield 78, 3) := by decide +kernel
theorem dX9_place_31 : decode cX9_place 31 = .ok (.getfield 218, 3) := by decide +kernel
theorem dX9_place_34 : decode cX9_place 34 = .ok (.iconst 1, 1) := by decide +kernel
theorem dX9_place_35 : decode cX9_place 35 = .ok (.isub, 1) := by decide +kernel
theorem dX9_place_36 : decode cX9_place 36 = .ok (.invokevirtual 215, 3) := by decide +kernel
theorem dX9_place_39 : decode cX9_place 39 = .ok (.ireturn, 1) := by decide +kernel
theorem dX9_count_0 : decode cX9_count 0 = .ok (.iload_n 1, 1) := by decide +kernel
theorem dX9_count_1 : decode cX9_count 1 = .ok (.tableswitch 134 0 9 #[55, 63, 79, 87, 95, 100, 108, 116, 121, 126], 55) := by decide +kernel
theorem dX9_count_56 : decode cX9_count 56 = .ok (.aload_n 0, 1) := by decide +kernel
theorem dX9_count_57 : decode cX9_count 57 = .ok (.getfield 19, 3) := by decide +kernel
theorem dX9_count_60 : decode cX9_count 60 = .ok (.getfield 219, 3) := by decide +kernel
theorem dX9_count_63 : decode cX9_count 63 = .ok (.ireturn, 1) := by decide +kernel
theorem dX9_count_64 : decode cX9_count 64 = .ok (.aload_n 0, 1) := by decide +kernel
theorem dX9_count_65 : decode cX9_count 65 = .ok (.getfield 19, 3) := by decide +kernel
theorem dX9_count_68 : decode cX9_count 68 = .ok (.getfield 125, 3) := by decide +kernel
theorem dX9_count_71 : decode cX9_count 71 = .ok (.aload_n 0, 1) := by decide +kernel
theorem dX9_count_72 : decode cX9_count 72 = .ok (.getfield 19, 3) := by decide +kernel
theorem dX9_count_75 : decode cX9_count 75 = .ok (.getfield 219, 3) := by decide +kernel
theorem dX9_count_78 : decode cX9_count 78 = .ok (.isub, 1) := by decide +kernel
theorem dX9_count_79 : decode cX9_count 79 = .ok (.ireturn, 1) := by decide +kernel
theorem dX9_count_80 : decode cX9_count 80 = .ok (.aload_n 0, 1) := by decide +kernel
theorem dX9_count_81 : decode cX9_count 81 = .ok (.getfield 10, 3) := by decide +kernel
theorem dX9_count_84 : decode cX9_count 84 = .ok (.getfield 92, 3) := by decide +kernel
theorem dX9_count_87 : decode cX9_count 87 = .ok (.ireturn, 1) := by decide +kernel
theorem dX9_count_88 : decode cX9_count 88 = .ok (.aload_n 0, 1) := by decide +kernel
theorem dX9_count_89 : decode cX9_count 89 = .ok (.getfield 29, 3) := by decide +kernel
theorem dX9_count_92 : decode cX9_count 92 = .ok (.getfield 131, 3) := by decide +kernel
theorem dX9_count_95 : decode cX9_count 95 = .ok (.ireturn, 1) := by decide +kernel
theorem dX9_count_96 : decode cX9_count 96 = .ok (.aload_n 0, 1) := by decide +kernel
theorem dX9_count_97 : decode cX9_count 97 = .ok (.getfield 82, 3) := by decide +kernel
theorem dX9_count_100 : decode cX9_count 100 = .ok (.ireturn, 1) := by decide +kernel
theorem dX9_count_101 : decode cX9_count 101 = .ok (.aload_n 0, 1) := by decide +kernel
theorem dX9_count_102 : decode cX9_count 102 = .ok (.getfield 62, 3) := by decide +kernel
theorem dX9_count_105 : decode cX9_count 105 = .ok (.getfield 180, 3) := by decide +kernel
theorem dX9_count_108 : decode cX9_count 108 = .ok (.ireturn, 1) := by decide +kernel
theorem dX9_count_109 : decode cX9_count 109 = .ok (.aload_n 0, 1) := by decide +kernel
theorem dX9_count_110 : decode cX9_count 110 = .ok (.getfield 55, 3) := by decide +kernel
theorem dX9_count_113 : decode cX9_count 113 = .ok (.getfield 222, 3) := by decide +kernel
theorem dX9_count_116 : decode cX9_count 116 = .ok (.ireturn, 1) := by decide +kernel
theorem dX9_count_117 : decode cX9_count 117 = .ok (.aload_n 0, 1) := by decide +kernel
theorem dX9_count_118 : decode cX9_count 118 = .ok (.getfield 86, 3) := by decide +kernel
theorem dX9_count_121 : decode cX9_count 121 = .ok (.ireturn, 1) := by decide +kernel
theorem dX9_count_122 : decode cX9_count 122 = .ok (.aload_n 0, 1) := by decide +kernel
theorem dX9_count_123 : decode cX9_count 123 = .ok (.getfield 89, 3) := by decide +kernel
theorem dX9_count_126 : decode cX9_count 126 = .ok (.ireturn, 1) := by decide +kernel
theorem dX9_count_127 : decode cX9_count 127 = .ok (.aload_n 0, 1) := by decide +kernel
theorem dX9_count_128 : decode cX9_count 128 = .ok (.getfield 62, 3) := by decide +kernel
theorem dX9_count_131 : decode cX9_count 131 = .ok (.getfield 223, 3) := by decide +kernel
theorem dX9_count_134 : decode cX9_count 134 = .ok (.ireturn, 1) := by decide +kernel
theorem dX9_count_135 : decode cX9_count 135 = .ok (.sipush (-1002), 3) := by decide +kernel
theorem dX9_count_138 : decode cX9_count 138 = .ok (.ireturn, 1) := by decide +kernel
theorem dX9_digest_0 : decode cX9_digest 0 = .ok (.aload_n 0, 1) := by decide +kernel
theorem dX9_digest_1 : decode cX9_digest 1 = .ok (.ldc2_w 226, 3) := by decide +kernel
theorem dX9_digest_4 : decode cX9_digest 4 = .ok (.invokevirtual 228, 3) := by decide +kernel
theorem dX9_digest_7 : decode cX9_digest 7 = .ok (.lstore_n 1, 1) := by decide +kernel
theorem dX9_digest_8 : decode cX9_digest 8 = .ok (.aload_n 0, 1) := by decide +kernel
theorem dX9_digest_9 : decode cX9_digest 9 = .ok (.lload_n 1, 1) := by decide +kernel
theorem dX9_digest_10 : decode cX9_digest 10 = .ok (.invokevirtual 232, 3) := by decide +kernel
theorem dX9_digest_13 : decode cX9_digest 13 = .ok (.lstore_n 1, 1) := by decide +kernel
theorem dX9_digest_14 : decode cX9_digest 14 = .ok (.iconst 0, 1) := by decide +kernel
theorem dX9_digest_15 : decode cX9_digest 15 = .ok (.istore_n 3, 1) := by decide +kernel
theorem dX9_digest_16 : decode cX9_digest 16 = .ok (.iload_n 3, 1) := by decide +kernel
theorem dX9_digest_17 : decode cX9_digest 17 = .ok (.iconst 4, 1) := by decide +kernel
theorem dX9_digest_18 : decode cX9_digest 18 = .ok (.if_icmp .gt 22, 3) := by decide +kernel
theorem dX9_digest_21 : decode cX9_digest 21 = .ok (.ldc2_w 235, 3) := by decide +kernel
theorem dX9_digest_24 : decode cX9_digest 24 = .ok (.lload_n 1, 1) := by decide +kernel
theorem dX9_digest_25 : decode cX9_digest 25 = .ok (.lmul, 1) := by decide +kernel
theorem dX9_digest_26 : decode cX9_digest 26 = .ok (.aload_n 0, 1) := by decide +kernel
theorem dX9_digest_27 : decode cX9_digest 27 = .ok (.iload_n 3, 1) := by decide +kernel
theorem dX9_digest_28 : decode cX9_digest 28 = .ok (.invokevirtual 237, 3) := by decide +kernel
theorem dX9_digest_31 : decode cX9_digest 31 = .ok (.i2l, 1) := by decide +kernel
theorem dX9_digest_32 : decode cX9_digest 32 = .ok (.ladd, 1) := by decide +kernel
theorem dX9_digest_33 : decode cX9_digest 33 = .ok (.lstore_n 1, 1) := by decide +kernel
theorem dX9_digest_34 : decode cX9_digest 34 = .ok (.iinc 3 1, 3) := by decide +kernel
theorem dX9_digest_37 : decode cX9_digest 37 = .ok (.goto (-21), 3) := by decide +kernel
theorem dX9_digest_40 : decode cX9_digest 40 = .ok (.aload_n 0, 1) := by decide +kernel
theorem dX9_digest_41 : decode cX9_digest 41 = .ok (.lload_n 1, 1) := by decide +kernel
theorem dX9_digest_42 : decode cX9_digest 42 = .ok (.invokevirtual 240, 3) := by decide +kernel
theorem dX9_digest_45 : decode cX9_digest 45 = .ok (.lstore_n 1, 1) := by decide +kernel
theorem dX9_digest_46 : decode cX9_digest 46 = .ok (.iconst 0, 1) := by decide +kernel
theorem dX9_digest_47 : decode cX9_digest 47 = .ok (.istore_n 3, 1) := by decide +kernel
theorem dX9_digest_48 : decode cX9_digest 48 = .ok (.iload_n 3, 1) := by decide +kernel
theorem dX9_digest_49 : decode cX9_digest 49 = .ok (.aload_n 0, 1) := by decide +kernel
theorem dX9_digest_50 : decode cX9_digest 50 = .ok (.getfield 10, 3) := by decide +kernel
theorem dX9_digest_53 : decode cX9_digest 53 = .ok (.getfield 92, 3) := by decide +kernel
theorem dX9_digest_56 : decode cX9_digest 56 = .ok (.if_icmp .ge 26, 3) := by decide +kernel
theorem dX9_digest_59 : decode cX9_digest 59 = .ok (.ldc2_w 235, 3) := by decide +kernel
theorem dX9_digest_62 : decode cX9_digest 62 = .ok (.lload_n 1, 1) := by decide +kernel
theorem dX9_digest_63 : decode cX9_digest 63 = .ok (.lmul, 1) := by decide +kernel
theorem dX9_digest_64 : decode cX9_digest 64 = .ok (.aload_n 0, 1) := by decide +kernel
theorem dX9_digest_65 : decode cX9_digest 65 = .ok (.getfield 10, 3) := by decide +kernel
theorem dX9_digest_68 : decode cX9_digest 68 = .ok (.getfield 243, 3) := by decide +kernel
theorem dX9_digest_71 : decode cX9_digest 71 = .ok (.iload_n 3, 1) := by decide +kernel
theorem dX9_digest_72 : decode cX9_digest 72 = .ok (.iaload, 1) := by decide +kernel
theorem dX9_digest_73 : decode cX9_digest 73 = .ok (.i2l, 1) := by decide +kernel
theorem dX9_digest_74 : decode cX9_digest 74 = .ok (.ladd, 1) := by decide +kernel
theorem dX9_digest_75 : decode cX9_digest 75 = .ok (.lstore_n 1, 1) := by decide +kernel
theorem dX9_digest_76 : decode cX9_digest 76 = .ok (.iinc 3 1, 3) := by decide +kernel
theorem dX9_digest_79 : decode cX9_digest 79 = .ok (.goto (-31), 3) := by decide +kernel
theorem dX9_digest_82 : decode cX9_digest 82 = .ok (.iconst 0, 1) := by decide +kernel
theorem dX9_digest_83 : decode cX9_digest 83 = .ok (.istore_n 3, 1) := by decide +kernel
theorem dX9_digest_84 : decode cX9_digest 84 = .ok (.iload_n 3, 1) := by decide +kernel
theorem dX9_digest_85 : decode cX9_digest 85 = .ok (.bipush 9, 2) := by decide +kernel
theorem dX9_digest_87 : decode cX9_digest 87 = .ok (.if_icmp .gt 22, 3) := by decide +kernel
theorem dX9_digest_90 : decode cX9_digest 90 = .ok (.ldc2_w 235, 3) := by decide +kernel
theorem dX9_digest_93 : decode cX9_digest 93 = .ok (.lload_n 1, 1) := by decide +kernel
theorem dX9_digest_94 : decode cX9_digest 94 = .ok (.lmul, 1) := by decide +kernel
theorem dX9_digest_95 : decode cX9_digest 95 = .ok (.aload_n 0, 1) := by decide +kernel
theorem dX9_digest_96 : decode cX9_digest 96 = .ok (.iload_n 3, 1) := by decide +kernel
theorem dX9_digest_97 : decode cX9_digest 97 = .ok (.invokevirtual 246, 3) := by decide +kernel
theorem dX9_digest_100 : decode cX9_digest 100 = .ok (.i2l, 1) := by decide +kernel
theorem dX9_digest_101 : decode cX9_digest 101 = .ok (.ladd, 1) := by decide +kernel
theorem dX9_digest_102 : decode cX9_digest 102 = .ok (.lstore_n 1, 1) := by decide +kernel
theorem dX9_digest_103 : decode cX9_digest 103 = .ok (.iinc 3 1, 3) := by decide +kernel
theorem dX9_digest_106 : decode cX9_digest 106 = .ok (.goto (-22), 3) := by decide +kernel
theorem dX9_digest_109 : decode cX9_digest 109 = .ok (.lload_n 1, 1) := by decide +kernel
theorem dX9_digest_110 : decode cX9_digest 110 = .ok (.lreturn, 1) := by decide +kernel
theorem dX9_digestNodes_0 : decode cX9_digestNodes 0 = .ok (.lload_n 1, 1) := by decide +kernel
theorem dX9_digestNodes_1 : decode cX9_digestNodes 1 = .ok (.lstore_n 3, 1) := by decide +kernel
theorem dX9_digestNodes_2 : decode cX9_digestNodes 2 = .ok (.iconst 0, 1) := by decide +kernel
theorem dX9_digestNodes_3 : decode cX9_digestNodes 3 = .ok (.istore 5, 2) := by decide +kernel
theorem dX9_digestNodes_5 : decode cX9_digestNodes 5 = .ok (.iload 5, 2) := by decide +kernel
theorem dX9_digestNodes_7 : decode cX9_digestNodes 7 = .ok (.aload_n 0, 1) := by decide +kernel
theorem dX9_digestNodes_8 : decode cX9_digestNodes 8 = .ok (.getfield 19, 3) := by decide +kernel
theorem dX9_digestNodes_11 : decode cX9_digestNodes 11 = .ok (.getfield 125, 3) := by decide +kernel
theorem dX9_digestNodes_14 : decode cX9_digestNodes 14 = .ok (.if_icmp .ge 55, 3) := by decide +kernel
theorem dX9_digestNodes_17 : decode cX9_digestNodes 17 = .ok (.iconst 0, 1) := by decide +kernel
theorem dX9_digestNodes_18 : decode cX9_digestNodes 18 = .ok (.istore 6, 2) := by decide +kernel
theorem dX9_digestNodes_20 : decode cX9_digestNodes 20 = .ok (.iload 6, 2) := by decide +kernel
theorem dX9_digestNodes_22 : decode cX9_digestNodes 22 = .ok (.bipush 9, 2) := by decide +kernel
theorem dX9_digestNodes_24 : decode cX9_digestNodes 24 = .ok (.if_icmp .gt 25, 3) := by decide +kernel
theorem dX9_digestNodes_27 : decode cX9_digestNodes 27 = .ok (.ldc2_w 235, 3) := by decide +kernel
theorem dX9_digestNodes_30 : decode cX9_digestNodes 30 = .ok (.lload_n 3, 1) := by decide +kernel
theorem dX9_digestNodes_31 : decode cX9_digestNodes 31 = .ok (.lmul, 1) := by decide +kernel
theorem dX9_digestNodes_32 : decode cX9_digestNodes 32 = .ok (.aload_n 0, 1) := by decide +kernel
theorem dX9_digestNodes_33 : decode cX9_digestNodes 33 = .ok (.iload 5, 2) := by decide +kernel
theorem dX9_digestNodes_35 : decode cX9_digestNodes 35 = .ok (.iload 6, 2) := by decide +kernel
theorem dX9_digestNodes_37 : decode cX9_digestNodes 37 = .ok (.invokevirtual 249, 3) := by decide +kernel
theorem dX9_digestNodes_40 : decode cX9_digestNodes 40 = .ok (.i2l, 1) := by decide +kernel
theorem dX9_digestNodes_41 : decode cX9_digestNodes 41 = .ok (.ladd, 1) := by decide +kernel
theorem dX9_digestNodes_42 : decode cX9_digestNodes 42 = .ok (.lstore_n 3, 1) := by decide +kernel
theorem dX9_digestNodes_43 : decode cX9_digestNodes 43 = .ok (.iinc 6 1, 3) := by decide +kernel
theorem dX9_digestNodes_46 : decode cX9_digestNodes 46 = .ok (.goto (-26), 3) := by decide +kernel
theorem dX9_digestNodes_49 : decode cX9_digestNodes 49 = .ok (.ldc2_w 235, 3) := by decide +kernel
theorem dX9_digestNodes_52 : decode cX9_digestNodes 52 = .ok (.lload_n 3, 1) := by decide +kernel
theorem dX9_digestNodes_53 : decode cX9_digestNodes 53 = .ok (.lmul, 1) := by decide +kernel
theorem dX9_digestNodes_54 : decode cX9_digestNodes 54 = .ok (.aload_n 0, 1) := by decide +kernel
theorem dX9_digestNodes_55 : decode cX9_digestNodes 55 = .ok (.iload 5, 2) := by decide +kernel
theorem dX9_digestNodes_57 : decode cX9_digestNodes 57 = .ok (.invokevirtual 252, 3) := by decide +kernel
theorem dX9_digestNodes_60 : decode cX9_digestNodes 60 = .ok (.i2l, 1) := by decide +kernel
theorem dX9_digestNodes_61 : decode cX9_digestNodes 61 = .ok (.ladd, 1) := by decide +kernel
theorem dX9_digestNodes_62 : decode cX9_digestNodes 62 = .ok (.lstore_n 3, 1) := by decide +kernel
theorem dX9_digestNodes_63 : decode cX9_digestNodes 63 = .ok (.iinc 5 1, 3) := by decide +kernel
theorem dX9_digestNodes_66 : decode cX9_digestNodes 66 = .ok (.goto (-61), 3) := by decide +kernel
theorem dX9_digestNodes_69 : decode cX9_digestNodes 69 = .ok (.lload_n 3, 1) := by decide +kernel
theorem dX9_digestNodes_70 : decode cX9_digestNodes 70 = .ok (.lreturn, 1) := by decide +kernel
theorem dX9_digestFaults_0 : decode cX9_digestFaults 0 = .ok (.lload_n 1, 1) := by decide +kernel
theorem dX9_digestFaults_1 : decode cX9_digestFaults 1 = .ok (.lstore_n 3, 1) := by decide +kernel
theorem dX9_digestFaults_2 : decode cX9_digestFaults 2 = .ok (.iconst 0, 1) := by decide +kernel
theorem dX9_digestFaults_3 : decode cX9_digestFaults 3 = .ok (.istore 5, 2) := by decide +kernel
theorem dX9_digestFaults_5 : decode cX9_digestFaults 5 = .ok (.iload 5, 2) := by decide +kernel
theorem dX9_digestFaults_7 : decode cX9_digestFaults 7 = .ok (.aload_n 0, 1) := by decide +kernel
theorem dX9_digestFaults_8 : decode cX9_digestFaults 8 = .ok (.getfield 55, 3) := by decide +kernel
theorem dX9_digestFaults_11 : decode cX9_digestFaults 11 = .ok (.getfield 222, 3) := by decide +kernel
theorem dX9_digestFaults_14 : decode cX9_digestFaults 14 = .ok (.if_icmp .ge 63, 3) := by decide +kernel
theorem dX9_digestFaults_17 : decode cX9_digestFaults 17 = .ok (.ldc2_w 235, 3) := by decide +kernel
theorem dX9_digestFaults_20 : decode cX9_digestFaults 20 = .ok (.lload_n 3, 1) := by decide +kernel
theorem dX9_digestFaults_21 : decode cX9_digestFaults 21 = .ok (.lmul, 1) := by decide +kernel
theorem dX9_digestFaults_22 : decode cX9_digestFaults 22 = .ok (.aload_n 0, 1) := by decide +kernel
theorem dX9_digestFaults_23 : decode cX9_digestFaults 23 = .ok (.getfield 55, 3) := by decide +kernel
theorem dX9_digestFaults_26 : decode cX9_digestFaults 26 = .ok (.getfield 203, 3) := by decide +kernel
theorem dX9_digestFaults_29 : decode cX9_digestFaults 29 = .ok (.iload 5, 2) := by decide +kernel
theorem dX9_digestFaults_31 : decode cX9_digestFaults 31 = .ok (.iaload, 1) := by decide +kernel
theorem dX9_digestFaults_32 : decode cX9_digestFaults 32 = .ok (.i2l, 1) := by decide +kernel
theorem dX9_digestFaults_33 : decode cX9_digestFaults 33 = .ok (.ladd, 1) := by decide +kernel
theorem dX9_digestFaults_34 : decode cX9_digestFaults 34 = .ok (.lstore_n 3, 1) := by decide +kernel
theorem dX9_digestFaults_35 : decode cX9_digestFaults 35 = .ok (.ldc2_w 235, 3) := by decide +kernel
theorem dX9_digestFaults_38 : decode cX9_digestFaults 38 = .ok (.lload_n 3, 1) := by decide +kernel
theorem dX9_digestFaults_39 : decode cX9_digestFaults 39 = .ok (.lmul, 1) := by decide +kernel
theorem dX9_digestFaults_40 : decode cX9_digestFaults 40 = .ok (.aload_n 0, 1) := by decide +kernel
theorem dX9_digestFaults_41 : decode cX9_digestFaults 41 = .ok (.getfield 55, 3) := by decide +kernel
theorem dX9_digestFaults_44 : decode cX9_digestFaults 44 = .ok (.getfield 166, 3) := by decide +kernel
theorem dX9_digestFaults_47 : decode cX9_digestFaults 47 = .ok (.iload 5, 2) := by decide +kernel
theorem dX9_digestFaults_49 : decode cX9_digestFaults 49 = .ok (.iaload, 1) := by decide +kernel
theorem dX9_digestFaults_50 : decode cX9_digestFaults 50 = .ok (.i2l, 1) := by decide +kernel
theorem dX9_digestFaults_51 : decode cX9_digestFaults 51 = .ok (.ladd, 1) := by decide +kernel
theorem dX9_digestFaults_52 : decode cX9_digestFaults 52 = .ok (.lstore_n 3, 1) := by decide +kernel
theorem dX9_digestFaults_53 : decode cX9_digestFaults 53 = .ok (.ldc2_w 235, 3) := by decide +kernel
theorem dX9_digestFaults_56 : decode cX9_digestFaults 56 = .ok (.lload_n 3, 1) := by decide +kernel
theorem dX9_digestFaults_57 : decode cX9_digestFaults 57 = .ok (.lmul, 1) := by decide +kernel
theorem dX9_digestFaults_58 : decode cX9_digestFaults 58 = .ok (.aload_n 0, 1) := by decide +kernel
theorem dX9_digestFaults_59 : decode cX9_digestFaults 59 = .ok (.getfield 55, 3) := by decide +kernel
theorem dX9_digestFaults_62 : decode cX9_digestFaults 62 = .ok (.getfield 169, 3) := by decide +kernel
theorem dX9_digestFaults_65 : decode cX9_digestFaults 65 = .ok (.iload 5, 2) := by decide +kernel
theorem dX9_digestFaults_67 : decode cX9_digestFaults 67 = .ok (.iaload, 1) := by decide +kernel
theorem dX9_digestFaults_68 : decode cX9_digestFaults 68 = .ok (.i2l, 1) := by decide +kernel
theorem dX9_digestFaults_69 : decode cX9_digestFaults 69 = .ok (.ladd, 1) := by decide +kernel
theorem dX9_digestFaults_70 : decode cX9_digestFaults 70 = .ok (.lstore_n 3, 1) := by decide +kernel
theorem dX9_digestFaults_71 : decode cX9_digestFaults 71 = .ok (.iinc 5 1, 3) := by decide +kernel
theorem dX9_digestFaults_74 : decode cX9_digestFaults 74 = .ok (.goto (-69), 3) := by decide +kernel
theorem dX9_digestFaults_77 : decode cX9_digestFaults 77 = .ok (.lload_n 3, 1) := by decide +kernel
theorem dX9_digestFaults_78 : decode cX9_digestFaults 78 = .ok (.lreturn, 1) := by decide +kernel
theorem dX9_digestSuspects_0 : decode cX9_digestSuspects 0 = .ok (.lload_n 1, 1) := by decide +kernel
theorem dX9_digestSuspects_1 : decode cX9_digestSuspects 1 = .ok (.lstore_n 3, 1) := by decide +kernel
theorem dX9_digestSuspects_2 : decode cX9_digestSuspects 2 = .ok (.iconst 0, 1) := by decide +kernel
theorem dX9_digestSuspects_3 : decode cX9_digestSuspects 3 = .ok (.istore 5, 2) := by decide +kernel
theorem dX9_digestSuspects_5 : decode cX9_digestSuspects 5 = .ok (.iload 5, 2) := by decide +kernel
theorem dX9_digestSuspects_7 : decode cX9_digestSuspects 7 = .ok (.aload_n 0, 1) := by decide +kernel
theorem dX9_digestSuspects_8 : decode cX9_digestSuspects 8 = .ok (.getfield 69, 3) := by decide +kernel
theorem dX9_digestSuspects_11 : decode cX9_digestSuspects 11 = .ok (.getfield 186, 3) := by decide +kernel
theorem dX9_digestSuspects_14 : decode cX9_digestSuspects 14 = .ok (.if_icmp .ge 40, 3) := by decide +kernel
theorem dX9_digestSuspects_17 : decode cX9_digestSuspects 17 = .ok (.iconst 0, 1) := by decide +kernel
theorem dX9_digestSuspects_18 : decode cX9_digestSuspects 18 = .ok (.istore 6, 2) := by decide +kernel
theorem dX9_digestSuspects_20 : decode cX9_digestSuspects 20 = .ok (.iload 6, 2) := by decide +kernel
theorem dX9_digestSuspects_22 : decode cX9_digestSuspects 22 = .ok (.iconst 2, 1) := by decide +kernel
theorem dX9_digestSuspects_23 : decode cX9_digestSuspects 23 = .ok (.if_icmp .gt 25, 3) := by decide +kernel
theorem dX9_digestSuspects_26 : decode cX9_digestSuspects 26 = .ok (.ldc2_w 235, 3) := by decide +kernel
theorem dX9_digestSuspects_29 : decode cX9_digestSuspects 29 = .ok (.lload_n 3, 1) := by decide +kernel
theorem dX9_digestSuspects_30 : decode cX9_digestSuspects 30 = .ok (.lmul, 1) := by decide +kernel
theorem dX9_digestSuspects_31 : decode cX9_digestSuspects 31 = .ok (.aload_n 0, 1) := by decide +kernel
theorem dX9_digestSuspects_32 : decode cX9_digestSuspects 32 = .ok (.iload 5, 2) := by decide +kernel
theorem dX9_digestSuspects_34 : decode cX9_digestSuspects 34 = .ok (.iload 6, 2) := by decide +kernel
theorem dX9_digestSuspects_36 : decode cX9_digestSuspects 36 = .ok (.invokevirtual 255, 3) := by decide +kernel
theorem dX9_digestSuspects_39 : decode cX9_digestSuspects 39 = .ok (.i2l, 1) := by decide +kernel
theorem dX9_digestSuspects_40 : decode cX9_digestSuspects 40 = .ok (.ladd, 1) := by decide +kernel
theorem dX9_digestSuspects_41 : decode cX9_digestSuspects 41 = .ok (.lstore_n 3, 1) := by decide +kernel
theorem dX9_digestSuspects_42 : decode cX9_digestSuspects 42 = .ok (.iinc 6 1, 3) := by decide +kernel
theorem dX9_digestSuspects_45 : decode cX9_digestSuspects 45 = .ok (.goto (-25), 3) := by decide +kernel
theorem dX9_digestSuspects_48 : decode cX9_digestSuspects 48 = .ok (.iinc 5 1, 3) := by decide +kernel
theorem dX9_digestSuspects_51 : decode cX9_digestSuspects 51 = .ok (.goto (-46), 3) := by decide +kernel
theorem dX9_digestSuspects_54 : decode cX9_digestSuspects 54 = .ok (.lload_n 3, 1) := by decide +kernel
theorem dX9_digestSuspects_55 : decode cX9_digestSuspects 55 = .ok (.lreturn, 1) := by decide +kernel
theorem dX9_simulateFaults_0 : decode cX9_simulateFaults 0 = .ok (.aload_n 0, 1) := by decide +kernel
theorem dX9_simulateFaults_1 : decode cX9_simulateFaults 1 = .ok (.getfield 38, 3) := by decide +kernel
theorem dX9_simulateFaults_4 : decode cX9_simulateFaults 4 = .ok (.iconst 0, 1) := by decide +kernel
theorem dX9_simulateFaults_5 : decode cX9_simulateFaults 5 = .ok (.aload_n 0, 1) := by decide +kernel
theorem dX9_simulateFaults_6 : decode cX9_simulateFaults 6 = .ok (.getfield 45, 3) := by decide +kernel
theorem dX9_simulateFaults_9 : decode cX9_simulateFaults 9 = .ok (.invokevirtual 258, 3) := by decide +kernel
theorem dX9_simulateFaults_12 : decode cX9_simulateFaults 12 = .ok (.aload_n 0, 1) := by decide +kernel
theorem dX9_simulateFaults_13 : decode cX9_simulateFaults 13 = .ok (.getfield 55, 3) := by decide +kernel
theorem dX9_simulateFaults_16 : decode cX9_simulateFaults 16 = .ok (.aload_n 0, 1) := by decide +kernel
theorem dX9_simulateFaults_17 : decode cX9_simulateFaults 17 = .ok (.getfield 19, 3) := by decide +kernel
theorem dX9_simulateFaults_20 : decode cX9_simulateFaults 20 = .ok (.invokevirtual 262, 3) := by decide +kernel
theorem dX9_simulateFaults_23 : decode cX9_simulateFaults 23 = .ok (.iconst 0, 1) := by decide +kernel
theorem dX9_simulateFaults_24 : decode cX9_simulateFaults 24 = .ok (.istore_n 1, 1) := by decide +kernel
theorem dX9_simulateFaults_25 : decode cX9_simulateFaults 25 = .ok (.iload_n 1, 1) := by decide +kernel
theorem dX9_simulateFaults_26 : decode cX9_simulateFaults 26 = .ok (.aload_n 0, 1) := by decide +kernel
theorem dX9_simulateFaults_27 : decode cX9_simulateFaults 27 = .ok (.getfield 55, 3) := by decide +kernel
theorem dX9_simulateFaults_30 : decode cX9_simulateFaults 30 = .ok (.getfield 222, 3) := by decide +kernel
theorem dX9_simulateFaults_33 : decode cX9_simulateFaults 33 = .ok (.if_icmp .ge 69, 3) := by decide +kernel
theorem dX9_simulateFaults_36 : decode cX9_simulateFaults 36 = .ok (.aload_n 0, 1) := by decide +kernel
theorem dX9_simulateFaults_37 : decode cX9_simulateFaults 37 = .ok (.getfield 38, 3) := by decide +kernel
theorem dX9_simulateFaults_40 : decode cX9_simulateFaults 40 = .ok (.aload_n 0, 1) := by decide +kernel
theorem dX9_simulateFaults_41 : decode cX9_simulateFaults 41 = .ok (.getfield 55, 3) := by decide +kernel
theorem dX9_simulateFaults_44 : decode cX9_simulateFaults 44 = .ok (.getfield 203, 3) := by decide +kernel
theorem dX9_simulateFaults_47 : decode cX9_simulateFaults 47 = .ok (.iload_n 1, 1) := by decide +kernel
theorem dX9_simulateFaults_48 : decode cX9_simulateFaults 48 = .ok (.iaload, 1) := by decide +kernel
theorem dX9_simulateFaults_49 : decode cX9_simulateFaults 49 = .ok (.aload_n 0, 1) := by decide +kernel
theorem dX9_simulateFaults_50 : decode cX9_simulateFaults 50 = .ok (.getfield 49, 3) := by decide +kernel
theorem dX9_simulateFaults_53 : decode cX9_simulateFaults 53 = .ok (.invokevirtual 258, 3) := by decide +kernel
theorem dX9_simulateFaults_56 : decode cX9_simulateFaults 56 = .ok (.aload_n 0, 1) := by decide +kernel
theorem dX9_simulateFaults_57 : decode cX9_simulateFaults 57 = .ok (.getfield 55, 3) := by decide +kernel
theorem dX9_simulateFaults_60 : decode cX9_simulateFaults 60 = .ok (.getfield 166, 3) := by decide +kernel
theorem dX9_simulateFaults_63 : decode cX9_simulateFaults 63 = .ok (.iload_n 1, 1) := by decide +kernel
theorem dX9_simulateFaults_64 : decode cX9_simulateFaults 64 = .ok (.aload_n 0, 1) := by decide +kernel
theorem dX9_simulateFaults_65 : decode cX9_simulateFaults 65 = .ok (.getfield 49, 3) := by decide +kernel
theorem dX9_simulateFaults_68 : decode cX9_simulateFaults 68 = .ok (.aload_n 0, 1) := by decide +kernel
theorem dX9_simulateFaults_69 : decode cX9_simulateFaults 69 = .ok (.getfield 45, 3) := by decide +kernel
theorem dX9_simulateFaults_72 : decode cX9_simulateFaults 72 = .ok (.invokevirtual 265, 3) := by decide +kernel
theorem dX9_simulateFaults_75 : decode cX9_simulateFaults 75 = .ok (.iastore, 1) := by decide +kernel
theorem dX9_simulateFaults_76 : decode cX9_simulateFaults 76 = .ok (.aload_n 0, 1) := by decide +kernel
theorem dX9_simulateFaults_77 : decode cX9_simulateFaults 77 = .ok (.getfield 55, 3) := by decide +kernel
theorem dX9_simulateFaults_80 : decode cX9_simulateFaults 80 = .ok (.getfield 169, 3) := by decide +kernel
theorem dX9_simulateFaults_83 : decode cX9_simulateFaults 83 = .ok (.iload_n 1, 1) := by decide +kernel
theorem dX9_simulateFaults_84 : decode cX9_simulateFaults 84 = .ok (.aload_n 0, 1) := by decide +kernel
theorem dX9_simulateFaults_85 : decode cX9_simulateFaults 85 = .ok (.getfield 49, 3) := by decide +kernel
theorem dX9_simulateFaults_88 : decode cX9_simulateFaults 88 = .ok (.aload_n 0, 1) := by decide +kernel
theorem dX9_simulateFaults_89 : decode cX9_simulateFaults 89 = .ok (.getfield 45, 3) := by decide +kernel
theorem dX9_simulateFaults_92 : decode cX9_simulateFaults 92 = .ok (.invokevirtual 269, 3) := by decide +kernel
theorem dX9_simulateFaults_95 : decode cX9_simulateFaults 95 = .ok (.iastore, 1) := by decide +kernel
theorem dX9_simulateFaults_96 : decode cX9_simulateFaults 96 = .ok (.iinc 1 1, 3) := by decide +kernel
theorem dX9_simulateFaults_99 : decode cX9_simulateFaults 99 = .ok (.goto (-74), 3) := by decide +kernel
theorem dX9_simulateFaults_102 : decode cX9_simulateFaults 102 = .ok (.aload_n 0, 1) := by decide +kernel
theorem dX9_simulateFaults_103 : decode cX9_simulateFaults 103 = .ok (.getfield 69, 3) := by decide +kernel
theorem dX9_simulateFaults_106 : decode cX9_simulateFaults 106 = .ok (.aload_n 0, 1) := by decide +kernel
theorem dX9_simulateFaults_107 : decode cX9_simulateFaults 107 = .ok (.getfield 55, 3) := by decide +kernel
theorem dX9_simulateFaults_110 : decode cX9_simulateFaults 110 = .ok (.invokevirtual 272, 3) := by decide +kernel
theorem dX9_simulateFaults_113 : decode cX9_simulateFaults 113 = .ok (.return_, 1) := by decide +kernel
theorem dX9_simulateNow_0 : decode cX9_simulateNow 0 = .ok (.aload_n 0, 1) := by decide +kernel
theorem dX9_simulateNow_1 : decode cX9_simulateNow 1 = .ok (.getfield 38, 3) := by decide +kernel
theorem dX9_simulateNow_4 : decode cX9_simulateNow 4 = .ok (.aload_n 0, 1) := by decide +kernel
theorem dX9_simulateNow_5 : decode cX9_simulateNow 5 = .ok (.getfield 82, 3) := by decide +kernel
theorem dX9_simulateNow_8 : decode cX9_simulateNow 8 = .ok (.aload_n 0, 1) := by decide +kernel
theorem dX9_simulateNow_9 : decode cX9_simulateNow 9 = .ok (.getfield 49, 3) := by decide +kernel
theorem dX9_simulateNow_12 : decode cX9_simulateNow 12 = .ok (.invokevirtual 258, 3) := by decide +kernel
theorem dX9_simulateNow_15 : decode cX9_simulateNow 15 = .ok (.aload_n 0, 1) := by decide +kernel
theorem dX9_simulateNow_16 : decode cX9_simulateNow 16 = .ok (.getfield 78, 3) := by decide +kernel
theorem dX9_simulateNow_19 : decode cX9_simulateNow 19 = .ok (.aload_n 0, 1) := by decide +kernel
theorem dX9_simulateNow_20 : decode cX9_simulateNow 20 = .ok (.getfield 45, 3) := by decide +kernel
theorem dX9_simulateNow_23 : decode cX9_simulateNow 23 = .ok (.aload_n 0, 1) := by decide +kernel
theorem dX9_simulateNow_24 : decode cX9_simulateNow 24 = .ok (.getfield 49, 3) := by decide +kernel
theorem dX9_simulateNow_27 : decode cX9_simulateNow 27 = .ok (.invokevirtual 276, 3) := by decide +kernel
theorem dX9_simulateNow_30 : decode cX9_simulateNow 30 = .ok (.aload_n 0, 1) := by decide +kernel
theorem dX9_simulateNow_31 : decode cX9_simulateNow 31 = .ok (.invokevirtual 183, 3) := by decide +kernel
theorem dX9_simulateNow_34 : decode cX9_simulateNow 34 = .ok (.return_, 1) := by decide +kernel
theorem dX9_forgetProbes_0 : decode cX9_forgetProbes 0 = .ok (.aload_n 0, 1) := by decide +kernel
theorem dX9_forgetProbes_1 : decode cX9_forgetProbes 1 = .ok (.getfield 62, 3) := by decide +kernel
theorem dX9_forgetProbes_4 : decode cX9_forgetProbes 4 = .ok (.invokevirtual 279, 3) := by decide +kernel
theorem dX9_forgetProbes_7 : decode cX9_forgetProbes 7 = .ok (.aload_n 0, 1) := by decide +kernel
theorem dX9_forgetProbes_8 : decode cX9_forgetProbes 8 = .ok (.getfield 69, 3) := by decide +kernel
theorem dX9_forgetProbes_11 : decode cX9_forgetProbes 11 = .ok (.aload_n 0, 1) := by decide +kernel
theorem dX9_forgetProbes_12 : decode cX9_forgetProbes 12 = .ok (.getfield 62, 3) := by decide +kernel
theorem dX9_forgetProbes_15 : decode cX9_forgetProbes 15 = .ok (.invokevirtual 176, 3) := by decide +kernel
theorem dX9_forgetProbes_18 : decode cX9_forgetProbes 18 = .ok (.return_, 1) := by decide +kernel
theorem dX9_figure_0 : decode cX9_figure 0 = .ok (.iload_n 0, 1) := by decide +kernel
theorem dX9_figure_1 : decode cX9_figure 1 = .ok (.bipush 48, 2) := by decide +kernel
theorem dX9_figure_3 : decode cX9_figure 3 = .ok (.if_icmp .lt 14, 3) := by decide +kernel
theorem dX9_figure_6 : decode cX9_figure 6 = .ok (.iload_n 0, 1) := by decide +kernel
theorem dX9_figure_7 : decode cX9_figure 7 = .ok (.bipush 57, 2) := by decide +kernel
theorem dX9_figure_9 : decode cX9_figure 9 = .ok (.if_icmp .gt 8, 3) := by decide +kernel
theorem dX9_figure_12 : decode cX9_figure 12 = .ok (.iload_n 0, 1) := by decide +kernel
theorem dX9_figure_13 : decode cX9_figure 13 = .ok (.bipush 48, 2) := by decide +kernel
theorem dX9_figure_15 : decode cX9_figure 15 = .ok (.isub, 1) := by decide +kernel
theorem dX9_figure_16 : decode cX9_figure 16 = .ok (.ireturn, 1) := by decide +kernel
theorem dX9_figure_17 : decode cX9_figure 17 = .ok (.iload_n 0, 1) := by decide +kernel
theorem dX9_figure_18 : decode cX9_figure 18 = .ok (.bipush 97, 2) := by decide +kernel
theorem dX9_figure_20 : decode cX9_figure 20 = .ok (.if_icmp .lt 17, 3) := by decide +kernel
theorem dX9_figure_23 : decode cX9_figure 23 = .ok (.iload_n 0, 1) := by decide +kernel
theorem dX9_figure_24 : decode cX9_figure 24 = .ok (.bipush 102, 2) := by decide +kernel
theorem dX9_figure_26 : decode cX9_figure 26 = .ok (.if_icmp .gt 11, 3) := by decide +kernel
theorem dX9_figure_29 : decode cX9_figure 29 = .ok (.iload_n 0, 1) := by decide +kernel
theorem dX9_figure_30 : decode cX9_figure 30 = .ok (.bipush 97, 2) := by decide +kernel
theorem dX9_figure_32 : decode cX9_figure 32 = .ok (.isub, 1) := by decide +kernel
theorem dX9_figure_33 : decode cX9_figure 33 = .ok (.bipush 10, 2) := by decide +kernel
theorem dX9_figure_35 : decode cX9_figure 35 = .ok (.iadd, 1) := by decide +kernel
theorem dX9_figure_36 : decode cX9_figure 36 = .ok (.ireturn, 1) := by decide +kernel
theorem dX9_figure_37 : decode cX9_figure 37 = .ok (.iconst (-1), 1) := by decide +kernel
theorem dX9_figure_38 : decode cX9_figure 38 = .ok (.ireturn, 1) := by decide +kernel
theorem dJ13_bitCount_95d88_0 : decode cJ13_bitCount_95d88 0 = .ok (.lload_n 0, 1) := by decide +kernel
theorem dJ13_bitCount_95d88_1 : decode cJ13_bitCount_95d88 1 = .ok (.lload_n 0, 1) := by decide +kernel
theorem dJ13_bitCount_95d88_2 : decode cJ13_bitCount_95d88 2 = .ok (.iconst 1, 1) := by decide +kernel
theorem dJ13_bitCount_95d88_3 : decode cJ13_bitCount_95d88 3 = .ok (.lushr, 1) := by decide +kernel
theorem dJ13_bitCount_95d88_4 : decode cJ13_bitCount_95d88 4 = .ok (.ldc2_w 314, 3) := by decide +kernel
theorem dJ13_bitCount_95d88_7 : decode cJ13_bitCount_95d88 7 = .ok (.land, 1) := by decide +kernel
theorem dJ13_bitCount_95d88_8 : decode cJ13_bitCount_95d88 8 = .ok (.lsub, 1) := by decide +kernel
theorem dJ13_bitCount_95d88_9 : decode cJ13_bitCount_95d88 9 = .ok (.lstore_n 0, 1) := by decide +kernel
theorem dJ13_bitCount_95d88_10 : decode cJ13_bitCount_95d88 10 = .ok (.lload_n 0, 1) := by decide +kernel
theorem dJ13_bitCount_95d88_11 : decode cJ13_bitCount_95d88 11 = .ok (.ldc2_w 316, 3) := by decide +kernel
theorem dJ13_bitCount_95d88_14 : decode cJ13_bitCount_95d88 14 = .ok (.land, 1) := by decide +kernel
theorem dJ13_bitCount_95d88_15 : decode cJ13_bitCount_95d88 15 = .ok (.lload_n 0, 1) := by decide +kernel
theorem dJ13_bitCount_95d88_16 : decode cJ13_bitCount_95d88 16 = .ok (.iconst 2, 1) := by decide +kernel
theorem dJ13_bitCount_95d88_17 : decode cJ13_bitCount_95d88 17 = .ok (.lushr, 1) := by decide +kernel
theorem dJ13_bitCount_95d88_18 : decode cJ13_bitCount_95d88 18 = .ok (.ldc2_w 316, 3) := by decide +kernel
theorem dJ13_bitCount_95d88_21 : decode cJ13_bitCount_95d88 21 = .ok (.land, 1) := by decide +kernel
theorem dJ13_bitCount_95d88_22 : decode cJ13_bitCount_95d88 22 = .ok (.ladd, 1) := by decide +kernel
theorem dJ13_bitCount_95d88_23 : decode cJ13_bitCount_95d88 23 = .ok (.lstore_n 0, 1) := by decide +kernel
theorem dJ13_bitCount_95d88_24 : decode cJ13_bitCount_95d88 24 = .ok (.lload_n 0, 1) := by decide +kernel
theorem dJ13_bitCount_95d88_25 : decode cJ13_bitCount_95d88 25 = .ok (.lload_n 0, 1) := by decide +kernel
theorem dJ13_bitCount_95d88_26 : decode cJ13_bitCount_95d88 26 = .ok (.iconst 4, 1) := by decide +kernel
theorem dJ13_bitCount_95d88_27 : decode cJ13_bitCount_95d88 27 = .ok (.lushr, 1) := by decide +kernel
theorem dJ13_bitCount_95d88_28 : decode cJ13_bitCount_95d88 28 = .ok (.ladd, 1) := by decide +kernel
theorem dJ13_bitCount_95d88_29 : decode cJ13_bitCount_95d88 29 = .ok (.ldc2_w 318, 3) := by decide +kernel
theorem dJ13_bitCount_95d88_32 : decode cJ13_bitCount_95d88 32 = .ok (.land, 1) := by decide +kernel
theorem dJ13_bitCount_95d88_33 : decode cJ13_bitCount_95d88 33 = .ok (.lstore_n 0, 1) := by decide +kernel
theorem dJ13_bitCount_95d88_34 : decode cJ13_bitCount_95d88 34 = .ok (.lload_n 0, 1) := by decide +kernel
theorem dJ13_bitCount_95d88_35 : decode cJ13_bitCount_95d88 35 = .ok (.lload_n 0, 1) := by decide +kernel
theorem dJ13_bitCount_95d88_36 : decode cJ13_bitCount_95d88 36 = .ok (.bipush 8, 2) := by decide +kernel
theorem dJ13_bitCount_95d88_38 : decode cJ13_bitCount_95d88 38 = .ok (.lushr, 1) := by decide +kernel
theorem dJ13_bitCount_95d88_39 : decode cJ13_bitCount_95d88 39 = .ok (.ladd, 1) := by decide +kernel
theorem dJ13_bitCount_95d88_40 : decode cJ13_bitCount_95d88 40 = .ok (.lstore_n 0, 1) := by decide +kernel
theorem dJ13_bitCount_95d88_41 : decode cJ13_bitCount_95d88 41 = .ok (.lload_n 0, 1) := by decide +kernel
theorem dJ13_bitCount_95d88_42 : decode cJ13_bitCount_95d88 42 = .ok (.lload_n 0, 1) := by decide +kernel
theorem dJ13_bitCount_95d88_43 : decode cJ13_bitCount_95d88 43 = .ok (.bipush 16, 2) := by decide +kernel
theorem dJ13_bitCount_95d88_45 : decode cJ13_bitCount_95d88 45 = .ok (.lushr, 1) := by decide +kernel
theorem dJ13_bitCount_95d88_46 : decode cJ13_bitCount_95d88 46 = .ok (.ladd, 1) := by decide +kernel
theorem dJ13_bitCount_95d88_47 : decode cJ13_bitCount_95d88 47 = .ok (.lstore_n 0, 1) := by decide +kernel
theorem dJ13_bitCount_95d88_48 : decode cJ13_bitCount_95d88 48 = .ok (.lload_n 0, 1) := by decide +kernel
theorem dJ13_bitCount_95d88_49 : decode cJ13_bitCount_95d88 49 = .ok (.lload_n 0, 1) := by decide +kernel
theorem dJ13_bitCount_95d88_50 : decode cJ13_bitCount_95d88 50 = .ok (.bipush 32, 2) := by decide +kernel
theorem dJ13_bitCount_95d88_52 : decode cJ13_bitCount_95d88 52 = .ok (.lushr, 1) := by decide +kernel
theorem dJ13_bitCount_95d88_53 : decode cJ13_bitCount_95d88 53 = .ok (.ladd, 1) := by decide +kernel
theorem dJ13_bitCount_95d88_54 : decode cJ13_bitCount_95d88 54 = .ok (.lstore_n 0, 1) := by decide +kernel
theorem dJ13_bitCount_95d88_55 : decode cJ13_bitCount_95d88 55 = .ok (.lload_n 0, 1) := by decide +kernel
theorem dJ13_bitCount_95d88_56 : decode cJ13_bitCount_95d88 56 = .ok (.l2i, 1) := by decide +kernel
theorem dJ13_bitCount_95d88_57 : decode cJ13_bitCount_95d88 57 = .ok (.bipush 127, 2) := by decide +kernel
theorem dJ13_bitCount_95d88_59 : decode cJ13_bitCount_95d88 59 = .ok (.iand, 1) := by decide +kernel
theorem dJ13_bitCount_95d88_60 : decode cJ13_bitCount_95d88 60 = .ok (.ireturn, 1) := by decide +kernel
theorem dJ9_max_7cf53_0 : decode cJ9_max_7cf53 0 = .ok (.iload_n 0, 1) := by decide +kernel
theorem dJ9_max_7cf53_1 : decode cJ9_max_7cf53 1 = .ok (.iload_n 1, 1) := by decide +kernel
theorem dJ9_max_7cf53_2 : decode cJ9_max_7cf53 2 = .ok (.if_icmp .lt 7, 3) := by decide +kernel
theorem dJ9_max_7cf53_5 : decode cJ9_max_7cf53 5 = .ok (.iload_n 0, 1) := by decide +kernel
theorem dJ9_max_7cf53_6 : decode cJ9_max_7cf53 6 = .ok (.goto 4, 3) := by decide +kernel
theorem dJ9_max_7cf53_9 : decode cJ9_max_7cf53 9 = .ok (.iload_n 1, 1) := by decide +kernel
theorem dJ9_max_7cf53_10 : decode cJ9_max_7cf53 10 = .ok (.ireturn, 1) := by decide +kernel
theorem dJ9_min_7cf53_0 : decode cJ9_min_7cf53 0 = .ok (.iload_n 0, 1) := by decide +kernel
theorem dJ9_min_7cf53_1 : decode cJ9_min_7cf53 1 = .ok (.iload_n 1, 1) := by decide +kernel
theorem dJ9_min_7cf53_2 : decode cJ9_min_7cf53 2 = .ok (.if_icmp .gt 7, 3) := by decide +kernel
theorem dJ9_min_7cf53_5 : decode cJ9_min_7cf53 5 = .ok (.iload_n 0, 1) := by decide +kernel
theorem dJ9_min_7cf53_6 : decode cJ9_min_7cf53 6 = .ok (.goto 4, 3) := by decide +kernel
theorem dJ9_min_7cf53_9 : decode cJ9_min_7cf53 9 = .ok (.iload_n 1, 1) := by decide +kernel
theorem dJ9_min_7cf53_10 : decode cJ9_min_7cf53 10 = .ok (.ireturn, 1) := by decide +kernel
theorem dJ7_fill_53178_0 : decode cJ7_fill_53178 0 = .ok (.iconst 0, 1) := by decide +kernel
theorem dJ7_fill_53178_1 : decode cJ7_fill_53178 1 = .ok (.istore_n 2, 1) := by decide +kernel
theorem dJ7_fill_53178_2 : decode cJ7_fill_53178 2 = .ok (.aload_n 0, 1) := by decide +kernel
theorem dJ7_fill_53178_3 : decode cJ7_fill_53178 3 = .ok (.arraylength, 1) := by decide +kernel
theorem dJ7_fill_53178_4 : decode cJ7_fill_53178 4 = .ok (.istore_n 3, 1) := by decide +kernel
theorem dJ7_fill_53178_5 : decode cJ7_fill_53178 5 = .ok (.iload_n 2, 1) := by decide +kernel
theorem dJ7_fill_53178_6 : decode cJ7_fill_53178 6 = .ok (.iload_n 3, 1) := by decide +kernel
theorem dJ7_fill_53178_7 : decode cJ7_fill_53178 7 = .ok (.if_icmp .ge 13, 3) := by decide +kernel
theorem dJ7_fill_53178_10 : decode cJ7_fill_53178 10 = .ok (.aload_n 0, 1) := by decide +kernel
theorem dJ7_fill_53178_11 : decode cJ7_fill_53178 11 = .ok (.iload_n 2, 1) := by decide +kernel
theorem dJ7_fill_53178_12 : decode cJ7_fill_53178 12 = .ok (.iload_n 1, 1) := by decide +kernel
theorem dJ7_fill_53178_13 : decode cJ7_fill_53178 13 = .ok (.iastore, 1) := by decide +kernel
theorem dJ7_fill_53178_14 : decode cJ7_fill_53178 14 = .ok (.iinc 2 1, 3) := by decide +kernel
theorem dJ7_fill_53178_17 : decode cJ7_fill_53178 17 = .ok (.goto (-12), 3) := by decide +kernel
theorem dJ7_fill_53178_20 : decode cJ7_fill_53178 20 = .ok (.return_, 1) := by decide +kernel
