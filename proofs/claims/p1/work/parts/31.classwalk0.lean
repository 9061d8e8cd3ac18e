/-! Walks of the class's methods, written by wip/whole/gen_class.py -/
theorem d_GL_end_0 : decode prog_1_method_3_code 0 = .ok (.iload_n 1, 1) := by decide +kernel
theorem d_GL_end_1 : decode prog_1_method_3_code 1 = .ok (.ifCond .lt 15, 3) := by decide +kernel
theorem d_GL_end_16 : decode prog_1_method_3_code 16 = .ok (.iconst 0, 1) := by decide +kernel
theorem d_GL_end_17 : decode prog_1_method_3_code 17 = .ok (.invokestatic 69, 3) := by decide +kernel
theorem d_GL_end_20 : decode prog_1_method_3_code 20 = .ok (.aload_n 0, 1) := by decide +kernel
theorem d_GL_end_21 : decode prog_1_method_3_code 21 = .ok (.dup, 1) := by decide +kernel
theorem d_GL_end_22 : decode prog_1_method_3_code 22 = .ok (.getfield 58, 3) := by decide +kernel
theorem d_GL_end_25 : decode prog_1_method_3_code 25 = .ok (.iload_n 1, 1) := by decide +kernel
theorem d_GL_end_26 : decode prog_1_method_3_code 26 = .ok (.isub, 1) := by decide +kernel
theorem d_GL_end_27 : decode prog_1_method_3_code 27 = .ok (.putfield 58, 3) := by decide +kernel
theorem d_GL_end_30 : decode prog_1_method_3_code 30 = .ok (.aload_n 0, 1) := by decide +kernel
theorem d_GL_end_31 : decode prog_1_method_3_code 31 = .ok (.getfield 58, 3) := by decide +kernel
theorem d_GL_end_34 : decode prog_1_method_3_code 34 = .ok (.ireturn, 1) := by decide +kernel
theorem d_GL_end_4 : decode prog_1_method_3_code 4 = .ok (.iload_n 1, 1) := by decide +kernel
theorem d_GL_end_5 : decode prog_1_method_3_code 5 = .ok (.aload_n 0, 1) := by decide +kernel
theorem d_GL_end_6 : decode prog_1_method_3_code 6 = .ok (.getfield 58, 3) := by decide +kernel
theorem d_GL_end_9 : decode prog_1_method_3_code 9 = .ok (.if_icmp .gt 7, 3) := by decide +kernel
theorem d_GL_end_12 : decode prog_1_method_3_code 12 = .ok (.iconst 1, 1) := by decide +kernel
theorem d_GL_end_13 : decode prog_1_method_3_code 13 = .ok (.goto 4, 3) := by decide +kernel
theorem d_GL_put_0 : decode prog_1_method_4_code 0 = .ok (.aload_n 0, 1) := by decide +kernel
theorem d_GL_put_1 : decode prog_1_method_4_code 1 = .ok (.getfield 58, 3) := by decide +kernel
theorem d_GL_put_4 : decode prog_1_method_4_code 4 = .ok (.istore_n 3, 1) := by decide +kernel
theorem d_GL_put_5 : decode prog_1_method_4_code 5 = .ok (.aload_n 0, 1) := by decide +kernel
theorem d_GL_put_6 : decode prog_1_method_4_code 6 = .ok (.iconst 0, 1) := by decide +kernel
theorem d_GL_put_7 : decode prog_1_method_4_code 7 = .ok (.putfield 58, 3) := by decide +kernel
theorem d_GL_put_10 : decode prog_1_method_4_code 10 = .ok (.iload_n 1, 1) := by decide +kernel
theorem d_GL_put_11 : decode prog_1_method_4_code 11 = .ok (.iload_n 2, 1) := by decide +kernel
theorem d_GL_put_12 : decode prog_1_method_4_code 12 = .ok (.invokestatic 73, 3) := by decide +kernel
theorem d_GL_put_15 : decode prog_1_method_4_code 15 = .ok (.aload_n 0, 1) := by decide +kernel
theorem d_GL_put_16 : decode prog_1_method_4_code 16 = .ok (.getfield 25, 3) := by decide +kernel
theorem d_GL_put_19 : decode prog_1_method_4_code 19 = .ok (.iload_n 3, 1) := by decide +kernel
theorem d_GL_put_20 : decode prog_1_method_4_code 20 = .ok (.invokevirtual 77, 3) := by decide +kernel
theorem d_GL_put_23 : decode prog_1_method_4_code 23 = .ok (.istore 4, 2) := by decide +kernel
theorem d_GL_put_25 : decode prog_1_method_4_code 25 = .ok (.iload 4, 2) := by decide +kernel
theorem d_GL_put_27 : decode prog_1_method_4_code 27 = .ok (.iconst (-1), 1) := by decide +kernel
theorem d_GL_put_28 : decode prog_1_method_4_code 28 = .ok (.if_icmp .eq 7, 3) := by decide +kernel
theorem d_GL_put_35 : decode prog_1_method_4_code 35 = .ok (.iconst 0, 1) := by decide +kernel
theorem d_GL_put_36 : decode prog_1_method_4_code 36 = .ok (.invokestatic 69, 3) := by decide +kernel
theorem d_GL_put_39 : decode prog_1_method_4_code 39 = .ok (.aload_n 0, 1) := by decide +kernel
theorem d_GL_put_40 : decode prog_1_method_4_code 40 = .ok (.getfield 34, 3) := by decide +kernel
theorem d_GL_put_43 : decode prog_1_method_4_code 43 = .ok (.aload_n 0, 1) := by decide +kernel
theorem d_GL_put_44 : decode prog_1_method_4_code 44 = .ok (.getfield 40, 3) := by decide +kernel
theorem d_GL_put_47 : decode prog_1_method_4_code 47 = .ok (.aload_n 0, 1) := by decide +kernel
theorem d_GL_put_48 : decode prog_1_method_4_code 48 = .ok (.getfield 81, 3) := by decide +kernel
theorem d_GL_put_51 : decode prog_1_method_4_code 51 = .ok (.aaload, 1) := by decide +kernel
theorem d_GL_put_52 : decode prog_1_method_4_code 52 = .ok (.aload_n 0, 1) := by decide +kernel
theorem d_GL_put_53 : decode prog_1_method_4_code 53 = .ok (.getfield 45, 3) := by decide +kernel
theorem d_GL_put_56 : decode prog_1_method_4_code 56 = .ok (.invokevirtual 84, 3) := by decide +kernel
theorem d_GL_put_59 : decode prog_1_method_4_code 59 = .ok (.aload_n 0, 1) := by decide +kernel
theorem d_GL_put_60 : decode prog_1_method_4_code 60 = .ok (.iload 4, 2) := by decide +kernel
theorem d_GL_put_62 : decode prog_1_method_4_code 62 = .ok (.bipush (-2), 2) := by decide +kernel
theorem d_GL_put_64 : decode prog_1_method_4_code 64 = .ok (.if_icmp .eq 24, 3) := by decide +kernel
theorem d_GL_put_88 : decode prog_1_method_4_code 88 = .ok (.iconst 0, 1) := by decide +kernel
theorem d_GL_put_89 : decode prog_1_method_4_code 89 = .ok (.invokevirtual 96, 3) := by decide +kernel
theorem d_GL_put_92 : decode prog_1_method_4_code 92 = .ok (.aload_n 0, 1) := by decide +kernel
theorem d_GL_put_93 : decode prog_1_method_4_code 93 = .ok (.getfield 54, 3) := by decide +kernel
theorem d_GL_put_96 : decode prog_1_method_4_code 96 = .ok (.aload_n 0, 1) := by decide +kernel
theorem d_GL_put_97 : decode prog_1_method_4_code 97 = .ok (.getfield 40, 3) := by decide +kernel
theorem d_GL_put_100 : decode prog_1_method_4_code 100 = .ok (.aload_n 0, 1) := by decide +kernel
theorem d_GL_put_101 : decode prog_1_method_4_code 101 = .ok (.getfield 81, 3) := by decide +kernel
theorem d_GL_put_104 : decode prog_1_method_4_code 104 = .ok (.aaload, 1) := by decide +kernel
theorem d_GL_put_105 : decode prog_1_method_4_code 105 = .ok (.invokevirtual 99, 3) := by decide +kernel
theorem d_GL_put_108 : decode prog_1_method_4_code 108 = .ok (.ireturn, 1) := by decide +kernel
theorem d_GL_put_67 : decode prog_1_method_4_code 67 = .ok (.aload_n 0, 1) := by decide +kernel
theorem d_GL_put_68 : decode prog_1_method_4_code 68 = .ok (.getfield 34, 3) := by decide +kernel
theorem d_GL_put_71 : decode prog_1_method_4_code 71 = .ok (.iload_n 1, 1) := by decide +kernel
theorem d_GL_put_72 : decode prog_1_method_4_code 72 = .ok (.iload_n 2, 1) := by decide +kernel
theorem d_GL_put_73 : decode prog_1_method_4_code 73 = .ok (.invokestatic 88, 3) := by decide +kernel
theorem d_GL_put_76 : decode prog_1_method_4_code 76 = .ok (.iload 4, 2) := by decide +kernel
theorem d_GL_put_78 : decode prog_1_method_4_code 78 = .ok (.invokevirtual 92, 3) := by decide +kernel
theorem d_GL_put_81 : decode prog_1_method_4_code 81 = .ok (.ifCond .eq 7, 3) := by decide +kernel
theorem d_GL_put_84 : decode prog_1_method_4_code 84 = .ok (.iconst 1, 1) := by decide +kernel
theorem d_GL_put_85 : decode prog_1_method_4_code 85 = .ok (.goto 4, 3) := by decide +kernel
theorem d_GL_put_31 : decode prog_1_method_4_code 31 = .ok (.iconst 1, 1) := by decide +kernel
theorem d_GL_put_32 : decode prog_1_method_4_code 32 = .ok (.goto 4, 3) := by decide +kernel
theorem d_GL_fill_0 : decode prog_1_method_5_code 0 = .ok (.iload_n 1, 1) := by decide +kernel
theorem d_GL_fill_1 : decode prog_1_method_5_code 1 = .ok (.iload_n 2, 1) := by decide +kernel
theorem d_GL_fill_2 : decode prog_1_method_5_code 2 = .ok (.invokestatic 73, 3) := by decide +kernel
theorem d_GL_fill_5 : decode prog_1_method_5_code 5 = .ok (.iload_n 3, 1) := by decide +kernel
theorem d_GL_fill_6 : decode prog_1_method_5_code 6 = .ok (.iload 4, 2) := by decide +kernel
theorem d_GL_fill_8 : decode prog_1_method_5_code 8 = .ok (.invokestatic 73, 3) := by decide +kernel
theorem d_GL_fill_11 : decode prog_1_method_5_code 11 = .ok (.iload 5, 2) := by decide +kernel
theorem d_GL_fill_13 : decode prog_1_method_5_code 13 = .ok (.iload 6, 2) := by decide +kernel
theorem d_GL_fill_15 : decode prog_1_method_5_code 15 = .ok (.invokestatic 73, 3) := by decide +kernel
theorem d_GL_fill_18 : decode prog_1_method_5_code 18 = .ok (.iload_n 3, 1) := by decide +kernel
theorem d_GL_fill_19 : decode prog_1_method_5_code 19 = .ok (.iload 5, 2) := by decide +kernel
theorem d_GL_fill_21 : decode prog_1_method_5_code 21 = .ok (.if_icmp .gt 14, 3) := by decide +kernel
theorem d_GL_fill_35 : decode prog_1_method_5_code 35 = .ok (.iconst 0, 1) := by decide +kernel
theorem d_GL_fill_36 : decode prog_1_method_5_code 36 = .ok (.invokestatic 69, 3) := by decide +kernel
theorem d_GL_fill_39 : decode prog_1_method_5_code 39 = .ok (.aload_n 0, 1) := by decide +kernel
theorem d_GL_fill_40 : decode prog_1_method_5_code 40 = .ok (.getfield 34, 3) := by decide +kernel
theorem d_GL_fill_43 : decode prog_1_method_5_code 43 = .ok (.aload_n 0, 1) := by decide +kernel
theorem d_GL_fill_44 : decode prog_1_method_5_code 44 = .ok (.getfield 40, 3) := by decide +kernel
theorem d_GL_fill_47 : decode prog_1_method_5_code 47 = .ok (.aload_n 0, 1) := by decide +kernel
theorem d_GL_fill_48 : decode prog_1_method_5_code 48 = .ok (.getfield 81, 3) := by decide +kernel
theorem d_GL_fill_51 : decode prog_1_method_5_code 51 = .ok (.aaload, 1) := by decide +kernel
theorem d_GL_fill_52 : decode prog_1_method_5_code 52 = .ok (.aload_n 0, 1) := by decide +kernel
theorem d_GL_fill_53 : decode prog_1_method_5_code 53 = .ok (.getfield 45, 3) := by decide +kernel
theorem d_GL_fill_56 : decode prog_1_method_5_code 56 = .ok (.invokevirtual 84, 3) := by decide +kernel
theorem d_GL_fill_59 : decode prog_1_method_5_code 59 = .ok (.aload_n 0, 1) := by decide +kernel
theorem d_GL_fill_60 : decode prog_1_method_5_code 60 = .ok (.aload_n 0, 1) := by decide +kernel
theorem d_GL_fill_61 : decode prog_1_method_5_code 61 = .ok (.getfield 34, 3) := by decide +kernel
theorem d_GL_fill_64 : decode prog_1_method_5_code 64 = .ok (.iload_n 1, 1) := by decide +kernel
theorem d_GL_fill_65 : decode prog_1_method_5_code 65 = .ok (.iload_n 2, 1) := by decide +kernel
theorem d_GL_fill_66 : decode prog_1_method_5_code 66 = .ok (.invokestatic 88, 3) := by decide +kernel
theorem d_GL_fill_69 : decode prog_1_method_5_code 69 = .ok (.iload_n 3, 1) := by decide +kernel
theorem d_GL_fill_70 : decode prog_1_method_5_code 70 = .ok (.iload 4, 2) := by decide +kernel
theorem d_GL_fill_72 : decode prog_1_method_5_code 72 = .ok (.iload 5, 2) := by decide +kernel
theorem d_GL_fill_74 : decode prog_1_method_5_code 74 = .ok (.iload 6, 2) := by decide +kernel
theorem d_GL_fill_76 : decode prog_1_method_5_code 76 = .ok (.invokevirtual 103, 3) := by decide +kernel
theorem d_GL_fill_79 : decode prog_1_method_5_code 79 = .ok (.invokevirtual 96, 3) := by decide +kernel
theorem d_GL_fill_82 : decode prog_1_method_5_code 82 = .ok (.aload_n 0, 1) := by decide +kernel
theorem d_GL_fill_83 : decode prog_1_method_5_code 83 = .ok (.getfield 54, 3) := by decide +kernel
theorem d_GL_fill_86 : decode prog_1_method_5_code 86 = .ok (.aload_n 0, 1) := by decide +kernel
theorem d_GL_fill_87 : decode prog_1_method_5_code 87 = .ok (.getfield 40, 3) := by decide +kernel
theorem d_GL_fill_90 : decode prog_1_method_5_code 90 = .ok (.aload_n 0, 1) := by decide +kernel
theorem d_GL_fill_91 : decode prog_1_method_5_code 91 = .ok (.getfield 81, 3) := by decide +kernel
theorem d_GL_fill_94 : decode prog_1_method_5_code 94 = .ok (.aaload, 1) := by decide +kernel
theorem d_GL_fill_95 : decode prog_1_method_5_code 95 = .ok (.invokevirtual 99, 3) := by decide +kernel
theorem d_GL_fill_98 : decode prog_1_method_5_code 98 = .ok (.ireturn, 1) := by decide +kernel
theorem d_GL_fill_24 : decode prog_1_method_5_code 24 = .ok (.iload 4, 2) := by decide +kernel
theorem d_GL_fill_26 : decode prog_1_method_5_code 26 = .ok (.iload 6, 2) := by decide +kernel
theorem d_GL_fill_28 : decode prog_1_method_5_code 28 = .ok (.if_icmp .gt 7, 3) := by decide +kernel
theorem d_GL_fill_31 : decode prog_1_method_5_code 31 = .ok (.iconst 1, 1) := by decide +kernel
theorem d_GL_fill_32 : decode prog_1_method_5_code 32 = .ok (.goto 4, 3) := by decide +kernel
theorem d_GL_insert_0 : decode prog_1_method_6_code 0 = .ok (.iload_n 2, 1) := by decide +kernel
theorem d_GL_insert_1 : decode prog_1_method_6_code 1 = .ok (.ifCond .lt 15, 3) := by decide +kernel
theorem d_GL_insert_16 : decode prog_1_method_6_code 16 = .ok (.iconst 0, 1) := by decide +kernel
theorem d_GL_insert_17 : decode prog_1_method_6_code 17 = .ok (.invokestatic 69, 3) := by decide +kernel
theorem d_GL_insert_20 : decode prog_1_method_6_code 20 = .ok (.iload_n 3, 1) := by decide +kernel
theorem d_GL_insert_21 : decode prog_1_method_6_code 21 = .ok (.iconst 1, 1) := by decide +kernel
theorem d_GL_insert_22 : decode prog_1_method_6_code 22 = .ok (.if_icmp .lt 13, 3) := by decide +kernel
theorem d_GL_insert_35 : decode prog_1_method_6_code 35 = .ok (.iconst 0, 1) := by decide +kernel
theorem d_GL_insert_36 : decode prog_1_method_6_code 36 = .ok (.invokestatic 69, 3) := by decide +kernel
theorem d_GL_insert_39 : decode prog_1_method_6_code 39 = .ok (.aload_n 0, 1) := by decide +kernel
theorem d_GL_insert_40 : decode prog_1_method_6_code 40 = .ok (.getfield 34, 3) := by decide +kernel
theorem d_GL_insert_43 : decode prog_1_method_6_code 43 = .ok (.aload_n 0, 1) := by decide +kernel
theorem d_GL_insert_44 : decode prog_1_method_6_code 44 = .ok (.getfield 40, 3) := by decide +kernel
theorem d_GL_insert_47 : decode prog_1_method_6_code 47 = .ok (.aload_n 0, 1) := by decide +kernel
theorem d_GL_insert_48 : decode prog_1_method_6_code 48 = .ok (.getfield 81, 3) := by decide +kernel
theorem d_GL_insert_51 : decode prog_1_method_6_code 51 = .ok (.aaload, 1) := by decide +kernel
theorem d_GL_insert_52 : decode prog_1_method_6_code 52 = .ok (.aload_n 0, 1) := by decide +kernel
theorem d_GL_insert_53 : decode prog_1_method_6_code 53 = .ok (.getfield 45, 3) := by decide +kernel
theorem d_GL_insert_56 : decode prog_1_method_6_code 56 = .ok (.invokevirtual 84, 3) := by decide +kernel
theorem d_GL_insert_59 : decode prog_1_method_6_code 59 = .ok (.aload_n 0, 1) := by decide +kernel
theorem d_GL_insert_60 : decode prog_1_method_6_code 60 = .ok (.aload_n 0, 1) := by decide +kernel
theorem d_GL_insert_61 : decode prog_1_method_6_code 61 = .ok (.getfield 34, 3) := by decide +kernel
theorem d_GL_insert_64 : decode prog_1_method_6_code 64 = .ok (.iload_n 1, 1) := by decide +kernel
theorem d_GL_insert_65 : decode prog_1_method_6_code 65 = .ok (.iconst 1, 1) := by decide +kernel
theorem d_GL_insert_66 : decode prog_1_method_6_code 66 = .ok (.iload_n 2, 1) := by decide +kernel
theorem d_GL_insert_67 : decode prog_1_method_6_code 67 = .ok (.iload_n 3, 1) := by decide +kernel
theorem d_GL_insert_68 : decode prog_1_method_6_code 68 = .ok (.invokevirtual 111, 3) := by decide +kernel
theorem d_GL_insert_71 : decode prog_1_method_6_code 71 = .ok (.invokevirtual 96, 3) := by decide +kernel
theorem d_GL_insert_74 : decode prog_1_method_6_code 74 = .ok (.aload_n 0, 1) := by decide +kernel
theorem d_GL_insert_75 : decode prog_1_method_6_code 75 = .ok (.getfield 54, 3) := by decide +kernel
theorem d_GL_insert_78 : decode prog_1_method_6_code 78 = .ok (.aload_n 0, 1) := by decide +kernel
theorem d_GL_insert_79 : decode prog_1_method_6_code 79 = .ok (.getfield 40, 3) := by decide +kernel
theorem d_GL_insert_82 : decode prog_1_method_6_code 82 = .ok (.aload_n 0, 1) := by decide +kernel
theorem d_GL_insert_83 : decode prog_1_method_6_code 83 = .ok (.getfield 81, 3) := by decide +kernel
theorem d_GL_insert_86 : decode prog_1_method_6_code 86 = .ok (.aaload, 1) := by decide +kernel
theorem d_GL_insert_87 : decode prog_1_method_6_code 87 = .ok (.invokevirtual 99, 3) := by decide +kernel
theorem d_GL_insert_90 : decode prog_1_method_6_code 90 = .ok (.ireturn, 1) := by decide +kernel
theorem d_GL_insert_25 : decode prog_1_method_6_code 25 = .ok (.iload_n 3, 1) := by decide +kernel
theorem d_GL_insert_26 : decode prog_1_method_6_code 26 = .ok (.bipush 50, 2) := by decide +kernel
theorem d_GL_insert_28 : decode prog_1_method_6_code 28 = .ok (.if_icmp .gt 7, 3) := by decide +kernel
theorem d_GL_insert_31 : decode prog_1_method_6_code 31 = .ok (.iconst 1, 1) := by decide +kernel
theorem d_GL_insert_32 : decode prog_1_method_6_code 32 = .ok (.goto 4, 3) := by decide +kernel
theorem d_GL_insert_4 : decode prog_1_method_6_code 4 = .ok (.iload_n 2, 1) := by decide +kernel
theorem d_GL_insert_5 : decode prog_1_method_6_code 5 = .ok (.iload_n 1, 1) := by decide +kernel
theorem d_GL_insert_6 : decode prog_1_method_6_code 6 = .ok (.invokestatic 107, 3) := by decide +kernel
theorem d_GL_insert_9 : decode prog_1_method_6_code 9 = .ok (.if_icmp .ge 7, 3) := by decide +kernel
theorem d_GL_insert_12 : decode prog_1_method_6_code 12 = .ok (.iconst 1, 1) := by decide +kernel
theorem d_GL_insert_13 : decode prog_1_method_6_code 13 = .ok (.goto 4, 3) := by decide +kernel
