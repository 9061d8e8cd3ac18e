/-! Walks of the class's methods, written by wip/whole/gen_class.py -/
theorem d_GL_erase_0 : decode prog_1_method_7_code 0 = .ok (.iload_n 2, 1) := by decide +kernel
theorem d_GL_erase_1 : decode prog_1_method_7_code 1 = .ok (.ifCond .lt 15, 3) := by decide +kernel
theorem d_GL_erase_16 : decode prog_1_method_7_code 16 = .ok (.iconst 0, 1) := by decide +kernel
theorem d_GL_erase_17 : decode prog_1_method_7_code 17 = .ok (.invokestatic 69, 3) := by decide +kernel
theorem d_GL_erase_20 : decode prog_1_method_7_code 20 = .ok (.iload_n 3, 1) := by decide +kernel
theorem d_GL_erase_21 : decode prog_1_method_7_code 21 = .ok (.iconst 1, 1) := by decide +kernel
theorem d_GL_erase_22 : decode prog_1_method_7_code 22 = .ok (.if_icmp .lt 23, 3) := by decide +kernel
theorem d_GL_erase_45 : decode prog_1_method_7_code 45 = .ok (.iconst 0, 1) := by decide +kernel
theorem d_GL_erase_46 : decode prog_1_method_7_code 46 = .ok (.invokestatic 69, 3) := by decide +kernel
theorem d_GL_erase_49 : decode prog_1_method_7_code 49 = .ok (.aload_n 0, 1) := by decide +kernel
theorem d_GL_erase_50 : decode prog_1_method_7_code 50 = .ok (.getfield 34, 3) := by decide +kernel
theorem d_GL_erase_53 : decode prog_1_method_7_code 53 = .ok (.aload_n 0, 1) := by decide +kernel
theorem d_GL_erase_54 : decode prog_1_method_7_code 54 = .ok (.getfield 40, 3) := by decide +kernel
theorem d_GL_erase_57 : decode prog_1_method_7_code 57 = .ok (.aload_n 0, 1) := by decide +kernel
theorem d_GL_erase_58 : decode prog_1_method_7_code 58 = .ok (.getfield 81, 3) := by decide +kernel
theorem d_GL_erase_61 : decode prog_1_method_7_code 61 = .ok (.aaload, 1) := by decide +kernel
theorem d_GL_erase_62 : decode prog_1_method_7_code 62 = .ok (.aload_n 0, 1) := by decide +kernel
theorem d_GL_erase_63 : decode prog_1_method_7_code 63 = .ok (.getfield 45, 3) := by decide +kernel
theorem d_GL_erase_66 : decode prog_1_method_7_code 66 = .ok (.invokevirtual 84, 3) := by decide +kernel
theorem d_GL_erase_69 : decode prog_1_method_7_code 69 = .ok (.aload_n 0, 1) := by decide +kernel
theorem d_GL_erase_70 : decode prog_1_method_7_code 70 = .ok (.aload_n 0, 1) := by decide +kernel
theorem d_GL_erase_71 : decode prog_1_method_7_code 71 = .ok (.getfield 34, 3) := by decide +kernel
theorem d_GL_erase_74 : decode prog_1_method_7_code 74 = .ok (.iload_n 1, 1) := by decide +kernel
theorem d_GL_erase_75 : decode prog_1_method_7_code 75 = .ok (.iconst 0, 1) := by decide +kernel
theorem d_GL_erase_76 : decode prog_1_method_7_code 76 = .ok (.iload_n 2, 1) := by decide +kernel
theorem d_GL_erase_77 : decode prog_1_method_7_code 77 = .ok (.iload_n 3, 1) := by decide +kernel
theorem d_GL_erase_78 : decode prog_1_method_7_code 78 = .ok (.invokevirtual 111, 3) := by decide +kernel
theorem d_GL_erase_81 : decode prog_1_method_7_code 81 = .ok (.invokevirtual 96, 3) := by decide +kernel
theorem d_GL_erase_84 : decode prog_1_method_7_code 84 = .ok (.aload_n 0, 1) := by decide +kernel
theorem d_GL_erase_85 : decode prog_1_method_7_code 85 = .ok (.getfield 54, 3) := by decide +kernel
theorem d_GL_erase_88 : decode prog_1_method_7_code 88 = .ok (.aload_n 0, 1) := by decide +kernel
theorem d_GL_erase_89 : decode prog_1_method_7_code 89 = .ok (.getfield 40, 3) := by decide +kernel
theorem d_GL_erase_92 : decode prog_1_method_7_code 92 = .ok (.aload_n 0, 1) := by decide +kernel
theorem d_GL_erase_93 : decode prog_1_method_7_code 93 = .ok (.getfield 81, 3) := by decide +kernel
theorem d_GL_erase_96 : decode prog_1_method_7_code 96 = .ok (.aaload, 1) := by decide +kernel
theorem d_GL_erase_97 : decode prog_1_method_7_code 97 = .ok (.invokevirtual 99, 3) := by decide +kernel
theorem d_GL_erase_100 : decode prog_1_method_7_code 100 = .ok (.ireturn, 1) := by decide +kernel
theorem d_GL_erase_25 : decode prog_1_method_7_code 25 = .ok (.iload_n 3, 1) := by decide +kernel
theorem d_GL_erase_26 : decode prog_1_method_7_code 26 = .ok (.bipush 50, 2) := by decide +kernel
theorem d_GL_erase_28 : decode prog_1_method_7_code 28 = .ok (.if_icmp .gt 17, 3) := by decide +kernel
theorem d_GL_erase_31 : decode prog_1_method_7_code 31 = .ok (.iload_n 3, 1) := by decide +kernel
theorem d_GL_erase_32 : decode prog_1_method_7_code 32 = .ok (.iload_n 1, 1) := by decide +kernel
theorem d_GL_erase_33 : decode prog_1_method_7_code 33 = .ok (.invokestatic 107, 3) := by decide +kernel
theorem d_GL_erase_36 : decode prog_1_method_7_code 36 = .ok (.iload_n 2, 1) := by decide +kernel
theorem d_GL_erase_37 : decode prog_1_method_7_code 37 = .ok (.isub, 1) := by decide +kernel
theorem d_GL_erase_38 : decode prog_1_method_7_code 38 = .ok (.if_icmp .gt 7, 3) := by decide +kernel
theorem d_GL_erase_41 : decode prog_1_method_7_code 41 = .ok (.iconst 1, 1) := by decide +kernel
theorem d_GL_erase_42 : decode prog_1_method_7_code 42 = .ok (.goto 4, 3) := by decide +kernel
theorem d_GL_erase_4 : decode prog_1_method_7_code 4 = .ok (.iload_n 2, 1) := by decide +kernel
theorem d_GL_erase_5 : decode prog_1_method_7_code 5 = .ok (.iload_n 1, 1) := by decide +kernel
theorem d_GL_erase_6 : decode prog_1_method_7_code 6 = .ok (.invokestatic 107, 3) := by decide +kernel
theorem d_GL_erase_9 : decode prog_1_method_7_code 9 = .ok (.if_icmp .ge 7, 3) := by decide +kernel
theorem d_GL_erase_12 : decode prog_1_method_7_code 12 = .ok (.iconst 1, 1) := by decide +kernel
theorem d_GL_erase_13 : decode prog_1_method_7_code 13 = .ok (.goto 4, 3) := by decide +kernel
theorem d_GL_value_0 : decode prog_1_method_10_code 0 = .ok (.iload_n 1, 1) := by decide +kernel
theorem d_GL_value_1 : decode prog_1_method_10_code 1 = .ok (.iload_n 2, 1) := by decide +kernel
theorem d_GL_value_2 : decode prog_1_method_10_code 2 = .ok (.invokestatic 73, 3) := by decide +kernel
theorem d_GL_value_5 : decode prog_1_method_10_code 5 = .ok (.iload_n 3, 1) := by decide +kernel
theorem d_GL_value_6 : decode prog_1_method_10_code 6 = .ok (.ifCond .eq 8, 3) := by decide +kernel
theorem d_GL_value_14 : decode prog_1_method_10_code 14 = .ok (.iconst 1, 1) := by decide +kernel
theorem d_GL_value_15 : decode prog_1_method_10_code 15 = .ok (.goto 4, 3) := by decide +kernel
theorem d_GL_value_19 : decode prog_1_method_10_code 19 = .ok (.invokestatic 69, 3) := by decide +kernel
theorem d_GL_value_22 : decode prog_1_method_10_code 22 = .ok (.aload_n 0, 1) := by decide +kernel
theorem d_GL_value_23 : decode prog_1_method_10_code 23 = .ok (.getfield 54, 3) := by decide +kernel
theorem d_GL_value_26 : decode prog_1_method_10_code 26 = .ok (.getfield 127, 3) := by decide +kernel
theorem d_GL_value_29 : decode prog_1_method_10_code 29 = .ok (.iload_n 1, 1) := by decide +kernel
theorem d_GL_value_30 : decode prog_1_method_10_code 30 = .ok (.iload_n 2, 1) := by decide +kernel
theorem d_GL_value_31 : decode prog_1_method_10_code 31 = .ok (.invokestatic 88, 3) := by decide +kernel
theorem d_GL_value_34 : decode prog_1_method_10_code 34 = .ok (.iaload, 1) := by decide +kernel
theorem d_GL_value_35 : decode prog_1_method_10_code 35 = .ok (.istore 4, 2) := by decide +kernel
theorem d_GL_value_37 : decode prog_1_method_10_code 37 = .ok (.iload_n 3, 1) := by decide +kernel
theorem d_GL_value_38 : decode prog_1_method_10_code 38 = .ok (.ifCond .ne 20, 3) := by decide +kernel
theorem d_GL_value_58 : decode prog_1_method_10_code 58 = .ok (.aload_n 0, 1) := by decide +kernel
theorem d_GL_value_59 : decode prog_1_method_10_code 59 = .ok (.getfield 54, 3) := by decide +kernel
theorem d_GL_value_62 : decode prog_1_method_10_code 62 = .ok (.getfield 131, 3) := by decide +kernel
theorem d_GL_value_65 : decode prog_1_method_10_code 65 = .ok (.getfield 140, 3) := by decide +kernel
theorem d_GL_value_68 : decode prog_1_method_10_code 68 = .ok (.iload 4, 2) := by decide +kernel
theorem d_GL_value_70 : decode prog_1_method_10_code 70 = .ok (.laload, 1) := by decide +kernel
theorem d_GL_value_71 : decode prog_1_method_10_code 71 = .ok (.lreturn, 1) := by decide +kernel
theorem d_GL_value_41 : decode prog_1_method_10_code 41 = .ok (.aload_n 0, 1) := by decide +kernel
theorem d_GL_value_42 : decode prog_1_method_10_code 42 = .ok (.getfield 54, 3) := by decide +kernel
theorem d_GL_value_45 : decode prog_1_method_10_code 45 = .ok (.getfield 131, 3) := by decide +kernel
theorem d_GL_value_48 : decode prog_1_method_10_code 48 = .ok (.getfield 135, 3) := by decide +kernel
theorem d_GL_value_51 : decode prog_1_method_10_code 51 = .ok (.iload 4, 2) := by decide +kernel
theorem d_GL_value_53 : decode prog_1_method_10_code 53 = .ok (.iaload, 1) := by decide +kernel
theorem d_GL_value_54 : decode prog_1_method_10_code 54 = .ok (.i2l, 1) := by decide +kernel
theorem d_GL_value_55 : decode prog_1_method_10_code 55 = .ok (.goto 16, 3) := by decide +kernel
theorem d_GL_value_9 : decode prog_1_method_10_code 9 = .ok (.iload_n 3, 1) := by decide +kernel
theorem d_GL_value_10 : decode prog_1_method_10_code 10 = .ok (.iconst 1, 1) := by decide +kernel
theorem d_GL_value_11 : decode prog_1_method_10_code 11 = .ok (.if_icmp .ne 7, 3) := by decide +kernel
theorem d_GL_value_18 : decode prog_1_method_10_code 18 = .ok (.iconst 0, 1) := by decide +kernel
theorem d_GL_content_0 : decode prog_1_method_12_code 0 = .ok (.iload_n 1, 1) := by decide +kernel
theorem d_GL_content_1 : decode prog_1_method_12_code 1 = .ok (.iload_n 2, 1) := by decide +kernel
theorem d_GL_content_2 : decode prog_1_method_12_code 2 = .ok (.invokestatic 73, 3) := by decide +kernel
theorem d_GL_content_5 : decode prog_1_method_12_code 5 = .ok (.iload_n 3, 1) := by decide +kernel
theorem d_GL_content_6 : decode prog_1_method_12_code 6 = .ok (.ifCond .lt 12, 3) := by decide +kernel
theorem d_GL_content_18 : decode prog_1_method_12_code 18 = .ok (.iconst 0, 1) := by decide +kernel
theorem d_GL_content_19 : decode prog_1_method_12_code 19 = .ok (.invokestatic 69, 3) := by decide +kernel
theorem d_GL_content_22 : decode prog_1_method_12_code 22 = .ok (.aload_n 0, 1) := by decide +kernel
theorem d_GL_content_23 : decode prog_1_method_12_code 23 = .ok (.getfield 54, 3) := by decide +kernel
theorem d_GL_content_26 : decode prog_1_method_12_code 26 = .ok (.getfield 127, 3) := by decide +kernel
theorem d_GL_content_29 : decode prog_1_method_12_code 29 = .ok (.iload_n 1, 1) := by decide +kernel
theorem d_GL_content_30 : decode prog_1_method_12_code 30 = .ok (.iload_n 2, 1) := by decide +kernel
theorem d_GL_content_31 : decode prog_1_method_12_code 31 = .ok (.invokestatic 88, 3) := by decide +kernel
theorem d_GL_content_34 : decode prog_1_method_12_code 34 = .ok (.iaload, 1) := by decide +kernel
theorem d_GL_content_35 : decode prog_1_method_12_code 35 = .ok (.istore 4, 2) := by decide +kernel
theorem d_GL_content_37 : decode prog_1_method_12_code 37 = .ok (.iload 4, 2) := by decide +kernel
theorem d_GL_content_39 : decode prog_1_method_12_code 39 = .ok (.sipush 400, 3) := by decide +kernel
theorem d_GL_content_42 : decode prog_1_method_12_code 42 = .ok (.if_icmp .ne 5, 3) := by decide +kernel
theorem d_GL_content_47 : decode prog_1_method_12_code 47 = .ok (.iload_n 3, 1) := by decide +kernel
theorem d_GL_content_48 : decode prog_1_method_12_code 48 = .ok (.lookupswitch 67 #[(0, 28), (1, 52)], 28) := by decide +kernel
theorem d_GL_content_76 : decode prog_1_method_12_code 76 = .ok (.aload_n 0, 1) := by decide +kernel
theorem d_GL_content_77 : decode prog_1_method_12_code 77 = .ok (.getfield 16, 3) := by decide +kernel
theorem d_GL_content_80 : decode prog_1_method_12_code 80 = .ok (.getfield 151, 3) := by decide +kernel
theorem d_GL_content_83 : decode prog_1_method_12_code 83 = .ok (.aload_n 0, 1) := by decide +kernel
theorem d_GL_content_84 : decode prog_1_method_12_code 84 = .ok (.getfield 40, 3) := by decide +kernel
theorem d_GL_content_87 : decode prog_1_method_12_code 87 = .ok (.aload_n 0, 1) := by decide +kernel
theorem d_GL_content_88 : decode prog_1_method_12_code 88 = .ok (.getfield 81, 3) := by decide +kernel
theorem d_GL_content_91 : decode prog_1_method_12_code 91 = .ok (.aaload, 1) := by decide +kernel
theorem d_GL_content_92 : decode prog_1_method_12_code 92 = .ok (.getfield 152, 3) := by decide +kernel
theorem d_GL_content_95 : decode prog_1_method_12_code 95 = .ok (.iload 4, 2) := by decide +kernel
theorem d_GL_content_97 : decode prog_1_method_12_code 97 = .ok (.iaload, 1) := by decide +kernel
theorem d_GL_content_98 : decode prog_1_method_12_code 98 = .ok (.iaload, 1) := by decide +kernel
theorem d_GL_content_99 : decode prog_1_method_12_code 99 = .ok (.ireturn, 1) := by decide +kernel
theorem d_GL_content_100 : decode prog_1_method_12_code 100 = .ok (.aload_n 0, 1) := by decide +kernel
theorem d_GL_content_101 : decode prog_1_method_12_code 101 = .ok (.getfield 40, 3) := by decide +kernel
theorem d_GL_content_104 : decode prog_1_method_12_code 104 = .ok (.aload_n 0, 1) := by decide +kernel
theorem d_GL_content_105 : decode prog_1_method_12_code 105 = .ok (.getfield 81, 3) := by decide +kernel
theorem d_GL_content_108 : decode prog_1_method_12_code 108 = .ok (.aaload, 1) := by decide +kernel
theorem d_GL_content_109 : decode prog_1_method_12_code 109 = .ok (.iload 4, 2) := by decide +kernel
theorem d_GL_content_111 : decode prog_1_method_12_code 111 = .ok (.invokevirtual 155, 3) := by decide +kernel
theorem d_GL_content_114 : decode prog_1_method_12_code 114 = .ok (.ireturn, 1) := by decide +kernel
theorem d_GL_content_115 : decode prog_1_method_12_code 115 = .ok (.aload_n 0, 1) := by decide +kernel
theorem d_GL_content_116 : decode prog_1_method_12_code 116 = .ok (.getfield 40, 3) := by decide +kernel
theorem d_GL_content_119 : decode prog_1_method_12_code 119 = .ok (.aload_n 0, 1) := by decide +kernel
theorem d_GL_content_120 : decode prog_1_method_12_code 120 = .ok (.getfield 81, 3) := by decide +kernel
theorem d_GL_content_123 : decode prog_1_method_12_code 123 = .ok (.aaload, 1) := by decide +kernel
theorem d_GL_content_124 : decode prog_1_method_12_code 124 = .ok (.iload 4, 2) := by decide +kernel
theorem d_GL_content_126 : decode prog_1_method_12_code 126 = .ok (.invokevirtual 158, 3) := by decide +kernel
theorem d_GL_content_129 : decode prog_1_method_12_code 129 = .ok (.ireturn, 1) := by decide +kernel
theorem d_GL_content_45 : decode prog_1_method_12_code 45 = .ok (.iconst 0, 1) := by decide +kernel
theorem d_GL_content_46 : decode prog_1_method_12_code 46 = .ok (.ireturn, 1) := by decide +kernel
theorem d_GL_content_9 : decode prog_1_method_12_code 9 = .ok (.iload_n 3, 1) := by decide +kernel
theorem d_GL_content_10 : decode prog_1_method_12_code 10 = .ok (.iconst 2, 1) := by decide +kernel
theorem d_GL_content_11 : decode prog_1_method_12_code 11 = .ok (.if_icmp .gt 7, 3) := by decide +kernel
theorem d_GL_content_14 : decode prog_1_method_12_code 14 = .ok (.iconst 1, 1) := by decide +kernel
theorem d_GL_content_15 : decode prog_1_method_12_code 15 = .ok (.goto 4, 3) := by decide +kernel
theorem d_GL_count_0 : decode prog_1_method_15_code 0 = .ok (.iload_n 1, 1) := by decide +kernel
theorem d_GL_count_1 : decode prog_1_method_15_code 1 = .ok (.tableswitch 113 0 7 #[47, 52, 60, 65, 70, 83, 88, 108], 47) := by decide +kernel
theorem d_GL_count_48 : decode prog_1_method_15_code 48 = .ok (.aload_n 0, 1) := by decide +kernel
theorem d_GL_count_49 : decode prog_1_method_15_code 49 = .ok (.getfield 58, 3) := by decide +kernel
theorem d_GL_count_52 : decode prog_1_method_15_code 52 = .ok (.ireturn, 1) := by decide +kernel
theorem d_GL_count_53 : decode prog_1_method_15_code 53 = .ok (.aload_n 0, 1) := by decide +kernel
theorem d_GL_count_54 : decode prog_1_method_15_code 54 = .ok (.getfield 54, 3) := by decide +kernel
theorem d_GL_count_57 : decode prog_1_method_15_code 57 = .ok (.getfield 167, 3) := by decide +kernel
theorem d_GL_count_60 : decode prog_1_method_15_code 60 = .ok (.ireturn, 1) := by decide +kernel
theorem d_GL_count_61 : decode prog_1_method_15_code 61 = .ok (.aload_n 0, 1) := by decide +kernel
theorem d_GL_count_62 : decode prog_1_method_15_code 62 = .ok (.getfield 115, 3) := by decide +kernel
theorem d_GL_count_65 : decode prog_1_method_15_code 65 = .ok (.ireturn, 1) := by decide +kernel
theorem d_GL_count_66 : decode prog_1_method_15_code 66 = .ok (.aload_n 0, 1) := by decide +kernel
theorem d_GL_count_67 : decode prog_1_method_15_code 67 = .ok (.getfield 121, 3) := by decide +kernel
theorem d_GL_count_70 : decode prog_1_method_15_code 70 = .ok (.ireturn, 1) := by decide +kernel
theorem d_GL_count_71 : decode prog_1_method_15_code 71 = .ok (.aload_n 0, 1) := by decide +kernel
theorem d_GL_count_72 : decode prog_1_method_15_code 72 = .ok (.getfield 40, 3) := by decide +kernel
theorem d_GL_count_75 : decode prog_1_method_15_code 75 = .ok (.aload_n 0, 1) := by decide +kernel
theorem d_GL_count_76 : decode prog_1_method_15_code 76 = .ok (.getfield 81, 3) := by decide +kernel
theorem d_GL_count_79 : decode prog_1_method_15_code 79 = .ok (.aaload, 1) := by decide +kernel
theorem d_GL_count_80 : decode prog_1_method_15_code 80 = .ok (.getfield 173, 3) := by decide +kernel
theorem d_GL_count_83 : decode prog_1_method_15_code 83 = .ok (.ireturn, 1) := by decide +kernel
theorem d_GL_count_84 : decode prog_1_method_15_code 84 = .ok (.aload_n 0, 1) := by decide +kernel
theorem d_GL_count_85 : decode prog_1_method_15_code 85 = .ok (.invokevirtual 176, 3) := by decide +kernel
theorem d_GL_count_88 : decode prog_1_method_15_code 88 = .ok (.ireturn, 1) := by decide +kernel
theorem d_GL_count_89 : decode prog_1_method_15_code 89 = .ok (.aload_n 0, 1) := by decide +kernel
theorem d_GL_count_90 : decode prog_1_method_15_code 90 = .ok (.getfield 54, 3) := by decide +kernel
theorem d_GL_count_93 : decode prog_1_method_15_code 93 = .ok (.aload_n 0, 1) := by decide +kernel
theorem d_GL_count_94 : decode prog_1_method_15_code 94 = .ok (.getfield 40, 3) := by decide +kernel
theorem d_GL_count_97 : decode prog_1_method_15_code 97 = .ok (.aload_n 0, 1) := by decide +kernel
theorem d_GL_count_98 : decode prog_1_method_15_code 98 = .ok (.getfield 81, 3) := by decide +kernel
theorem d_GL_count_101 : decode prog_1_method_15_code 101 = .ok (.aaload, 1) := by decide +kernel
theorem d_GL_count_102 : decode prog_1_method_15_code 102 = .ok (.getfield 173, 3) := by decide +kernel
theorem d_GL_count_105 : decode prog_1_method_15_code 105 = .ok (.invokevirtual 180, 3) := by decide +kernel
theorem d_GL_count_108 : decode prog_1_method_15_code 108 = .ok (.ireturn, 1) := by decide +kernel
theorem d_GL_count_109 : decode prog_1_method_15_code 109 = .ok (.aload_n 0, 1) := by decide +kernel
theorem d_GL_count_110 : decode prog_1_method_15_code 110 = .ok (.getfield 124, 3) := by decide +kernel
theorem d_GL_count_113 : decode prog_1_method_15_code 113 = .ok (.ireturn, 1) := by decide +kernel
theorem d_GL_count_114 : decode prog_1_method_15_code 114 = .ok (.iconst (-1), 1) := by decide +kernel
theorem d_GL_count_115 : decode prog_1_method_15_code 115 = .ok (.ireturn, 1) := by decide +kernel
set_option maxHeartbeats 4000000 in
theorem w_GL_count_0 {l : Launch} {G : gG} {d : Nat} {X : gX} {M : gM} {k : Int → gM → Prop} {c : Nat} (hX : glX X c) {x1 : Int} (hx1 : g32 x1) (hring : ∀ i : Nat, i < 41 → gsX X (X.2.2 (c + 23) i)) (T : (x1 = 0 → (g32 (M c 1) → (k (M c 1) M))) ∧ (x1 = 1 → (g32 (M (c + 234) 7) → (k (M (c + 234) 7) M))) ∧ (x1 = 2 → (g32 (M c 9) → (k (M c 9) M))) ∧ (x1 = 3 → (g32 (M c 10) → (k (M c 10) M))) ∧ (x1 = 4 → (g32 (M c 8) → (((0 : Int) ≤ M c 8 ∧ M c 8 < 41) ∧ (g32 (M (X.2.2 (c + 23) (Int.toNat (M c 8))) 0) → (k (M (X.2.2 (c + 23) (Int.toNat (M c 8))) 0) M))))) ∧ (x1 = 5 → (cI l G y_GL_formulas (gRm d) false [gR G c] X M (fun v9 M8 => (k v9 M8)))) ∧ (x1 = 6 → (g32 (M c 8) → (((0 : Int) ≤ M c 8 ∧ M c 8 < 41) ∧ (g32 (M (X.2.2 (c + 23) (Int.toNat (M c 8))) 0) → (cI l G y_Rs_cycles (gRm d) false [gR G (c + 234), gI (M (X.2.2 (c + 23) (Int.toNat (M c 8))) 0)] X M (fun v15 M14 => (k v15 M14))))))) ∧ (x1 = 7 → (g32 (M c 11) → (k (M c 11) M))) ∧ ((¬ x1 = 0 ∧ ¬ x1 = 1 ∧ ¬ x1 = 2 ∧ ¬ x1 = 3 ∧ ¬ x1 = 4 ∧ ¬ x1 = 5 ∧ ¬ x1 = 6 ∧ ¬ x1 = 7) → (k (-1) M))) : wp l G y_GL_count (gRm (d + 1)) false (kkI X k) false 0 [.val (gR G c), .val (gI x1)] [] X M 0 0 := by
  refine wp_iload_n d_GL_count_0 rfl rfl ?_
  obtain ⟨T0, T1, T2, T3, T4, T5, T6, T7, T8⟩ := T
  by_cases hc0 : x1 = 0
  · refine xtabIn (tgt := 48) d_GL_count_1 (w32_id hx1) 0 hc0 rfl rfl (by decide) ?_
    have T := T0 hc0
    refine wp_aload_n d_GL_count_48 rfl rfl (g_nz (gl_1 hX 0)) ?_
    refine xgetI d_GL_count_49 gc_GL f_GL_58.1 f_GL_58.2.1 f_GL_58.2.2.1 (gl_1 hX 0) (gl_2 hX (a := 0) (by decide)) (gl_s0 hX) f_GL_58.2.2.2.2.1 (fun h1 => ?_)
    have T := T h1
    exact wp_ireturn d_GL_count_52 rfl id (Nat.zero_le _) (Nat.zero_le _) (kI_mk h1 T)
  by_cases hc1 : x1 = 1
  · refine xtabIn (tgt := 53) d_GL_count_1 (w32_id hx1) 1 hc1 rfl rfl (by decide) ?_
    have T := T1 hc1
    refine wp_aload_n d_GL_count_53 rfl rfl (g_nz (gl_1 hX 0)) ?_
    refine xgetR d_GL_count_54 gc_GL f_GL_54.1 f_GL_54.2.1 f_GL_54.2.2.1 (gl_1 hX 0) (gl_2 hX (a := 0) (by decide)) (gl_s0 hX) f_GL_54.2.2.2.2.1 (gl_f0 hX 27 rfl) ?_
    refine xgetI d_GL_count_57 gc_Rs f_GL_167.1 f_GL_167.2.1 f_GL_167.2.2.1 (gl_1 hX 234) (gl_2 hX (a := 234) (by decide)) (gl_s hX 24 rfl) f_GL_167.2.2.2.2.1 (fun h2 => ?_)
    have T := T h2
    exact wp_ireturn d_GL_count_60 rfl id (Nat.zero_le _) (Nat.zero_le _) (kI_mk h2 T)
  by_cases hc2 : x1 = 2
  · refine xtabIn (tgt := 61) d_GL_count_1 (w32_id hx1) 2 hc2 rfl rfl (by decide) ?_
    have T := T2 hc2
    refine wp_aload_n d_GL_count_61 rfl rfl (g_nz (gl_1 hX 0)) ?_
    refine xgetI d_GL_count_62 gc_GL f_GL_115.1 f_GL_115.2.1 f_GL_115.2.2.1 (gl_1 hX 0) (gl_2 hX (a := 0) (by decide)) (gl_s0 hX) f_GL_115.2.2.2.2.1 (fun h3 => ?_)
    have T := T h3
    exact wp_ireturn d_GL_count_65 rfl id (Nat.zero_le _) (Nat.zero_le _) (kI_mk h3 T)
  by_cases hc3 : x1 = 3
  · refine xtabIn (tgt := 66) d_GL_count_1 (w32_id hx1) 3 hc3 rfl rfl (by decide) ?_
    have T := T3 hc3
    refine wp_aload_n d_GL_count_66 rfl rfl (g_nz (gl_1 hX 0)) ?_
    refine xgetI d_GL_count_67 gc_GL f_GL_121.1 f_GL_121.2.1 f_GL_121.2.2.1 (gl_1 hX 0) (gl_2 hX (a := 0) (by decide)) (gl_s0 hX) f_GL_121.2.2.2.2.1 (fun h4 => ?_)
    have T := T h4
    exact wp_ireturn d_GL_count_70 rfl id (Nat.zero_le _) (Nat.zero_le _) (kI_mk h4 T)
  by_cases hc4 : x1 = 4
  · refine xtabIn (tgt := 71) d_GL_count_1 (w32_id hx1) 4 hc4 rfl rfl (by decide) ?_
    have T := T4 hc4
    refine wp_aload_n d_GL_count_71 rfl rfl (g_nz (gl_1 hX 0)) ?_
    refine xgetR d_GL_count_72 gc_GL f_GL_40.1 f_GL_40.2.1 f_GL_40.2.2.1 (gl_1 hX 0) (gl_2 hX (a := 0) (by decide)) (gl_s0 hX) f_GL_40.2.2.2.2.1 (gl_f0 hX 26 rfl) ?_
    refine wp_aload_n d_GL_count_75 rfl rfl (g_nz (gl_1 hX 0)) ?_
    refine xgetI d_GL_count_76 gc_GL f_GL_81.1 f_GL_81.2.1 f_GL_81.2.2.1 (gl_1 hX 0) (gl_2 hX (a := 0) (by decide)) (gl_s0 hX) f_GL_81.2.2.2.2.1 (fun h5 => ?_)
    have T := T h5
    have h6 := T.1
    refine xaald d_GL_count_79 (Or.inr rfl) (gl_1 hX 23) (gl_2 hX (a := 23) (by decide)) (gl_s hX 23 rfl) (g32_n h6 (by decide)) h6.1 h6.2 rfl ?_
    have T := T.2
    refine xgetI d_GL_count_80 gc_St f_GL_173.1 f_GL_173.2.1 f_GL_173.2.2.1 (hring _ (g_tn h6)).1 (gs_2 (hring _ (g_tn h6))) (hring _ (g_tn h6)).2.2.1 f_GL_173.2.2.2.2.1 (fun h7 => ?_)
    have T := T h7
    exact wp_ireturn d_GL_count_83 rfl id (Nat.zero_le _) (Nat.zero_le _) (kI_mk h7 T)
  by_cases hc5 : x1 = 5
  · refine xtabIn (tgt := 84) d_GL_count_1 (w32_id hx1) 5 hc5 rfl rfl (by decide) ?_
    have T := T5 hc5
    refine wp_aload_n d_GL_count_84 rfl rfl (g_nz (gl_1 hX 0)) ?_
    refine xcV_I (md' := false) (As := []) (st := []) d_GL_count_85 ca_GL_formulas ml_GL_176 im_GL_formulas se_GL_formulas gc_GL (gl_1 hX 0) (gl_2 hX (a := 0) (by decide)) (gl_s0 hX) rfl (by decide) (by decide) rfl id id T (fun v9 M8 h10 T => ?_)
    exact wp_ireturn d_GL_count_88 rfl id (Nat.zero_le _) (Nat.zero_le _) (kI_mk h10 T)
  by_cases hc6 : x1 = 6
  · refine xtabIn (tgt := 89) d_GL_count_1 (w32_id hx1) 6 hc6 rfl rfl (by decide) ?_
    have T := T6 hc6
    refine wp_aload_n d_GL_count_89 rfl rfl (g_nz (gl_1 hX 0)) ?_
    refine xgetR d_GL_count_90 gc_GL f_GL_54.1 f_GL_54.2.1 f_GL_54.2.2.1 (gl_1 hX 0) (gl_2 hX (a := 0) (by decide)) (gl_s0 hX) f_GL_54.2.2.2.2.1 (gl_f0 hX 27 rfl) ?_
    refine wp_aload_n d_GL_count_93 rfl rfl (g_nz (gl_1 hX 0)) ?_
    refine xgetR d_GL_count_94 gc_GL f_GL_40.1 f_GL_40.2.1 f_GL_40.2.2.1 (gl_1 hX 0) (gl_2 hX (a := 0) (by decide)) (gl_s0 hX) f_GL_40.2.2.2.2.1 (gl_f0 hX 26 rfl) ?_
    refine wp_aload_n d_GL_count_97 rfl rfl (g_nz (gl_1 hX 0)) ?_
    refine xgetI d_GL_count_98 gc_GL f_GL_81.1 f_GL_81.2.1 f_GL_81.2.2.1 (gl_1 hX 0) (gl_2 hX (a := 0) (by decide)) (gl_s0 hX) f_GL_81.2.2.2.2.1 (fun h11 => ?_)
    have T := T h11
    have h12 := T.1
    refine xaald d_GL_count_101 (Or.inr rfl) (gl_1 hX 23) (gl_2 hX (a := 23) (by decide)) (gl_s hX 23 rfl) (g32_n h12 (by decide)) h12.1 h12.2 rfl ?_
    have T := T.2
    refine xgetI d_GL_count_102 gc_St f_GL_173.1 f_GL_173.2.1 f_GL_173.2.2.1 (hring _ (g_tn h12)).1 (gs_2 (hring _ (g_tn h12))) (hring _ (g_tn h12)).2.2.1 f_GL_173.2.2.2.2.1 (fun h13 => ?_)
    have T := T h13
    refine xcV_I (md' := false) (As := [gI (M (X.2.2 (c + 23) (Int.toNat (M c 8))) 0)]) (st := []) d_GL_count_105 ca_Rs_cycles ml_GL_180 im_Rs_cycles se_Rs_cycles gc_Rs (gl_1 hX 234) (gl_2 hX (a := 234) (by decide)) (gl_s hX 24 rfl) rfl (by decide) (by decide) rfl id id T (fun v15 M14 h16 T => ?_)
    exact wp_ireturn d_GL_count_108 rfl id (Nat.zero_le _) (Nat.zero_le _) (kI_mk h16 T)
  by_cases hc7 : x1 = 7
  · refine xtabIn (tgt := 109) d_GL_count_1 (w32_id hx1) 7 hc7 rfl rfl (by decide) ?_
    have T := T7 hc7
    refine wp_aload_n d_GL_count_109 rfl rfl (g_nz (gl_1 hX 0)) ?_
    refine xgetI d_GL_count_110 gc_GL f_GL_124.1 f_GL_124.2.1 f_GL_124.2.2.1 (gl_1 hX 0) (gl_2 hX (a := 0) (by decide)) (gl_s0 hX) f_GL_124.2.2.2.2.1 (fun h17 => ?_)
    have T := T h17
    exact wp_ireturn d_GL_count_113 rfl id (Nat.zero_le _) (Nat.zero_le _) (kI_mk h17 T)
  refine xtabOut (tgt := 114) d_GL_count_1 (w32_id hx1) (by omega) (by decide) ?_
  have T := T8 ⟨hc0, hc1, hc2, hc3, hc4, hc5, hc6, hc7⟩
  refine wp_iconst d_GL_count_114 ?_
  exact wp_ireturn d_GL_count_115 rfl id (Nat.zero_le _) (Nat.zero_le _) (kI_mk (g32_c (x := (-1)) rfl) T)
theorem e_GL_count {l : Launch} {G : gG} {d : Nat} {X : gX} {M : gM} {k : Int → gM → Prop} {c : Nat} {x1 : Int} (T : wp l G y_GL_count (gRm (d + 1)) false (kkI X k) false 0 [.val (gR G c), .val (gI x1)] [] X M 0 0) : cI l G y_GL_count (gRm (d + 1)) false [gR G c, gI x1] X M k := cen_I (plainFor_of_name rfl) (by simp only [lg_sl_R, lg_sl_I, lg_sl_L, lg_sl_N, List.length_cons, List.length_nil]; decide) (by unfold gEn; simp only [lg_sl_R, lg_sl_I, lg_sl_L, lg_sl_N]; exact wpt T (And.intro rfl (And.intro rfl True.intro)))
theorem d_GL_take_0 : decode prog_1_method_16_code 0 = .ok (.bipush 24, 2) := by decide +kernel
theorem d_GL_take_2 : decode prog_1_method_16_code 2 = .ok (.istore_n 2, 1) := by decide +kernel
theorem d_GL_take_3 : decode prog_1_method_16_code 3 = .ok (.iload_n 2, 1) := by decide +kernel
theorem d_GL_take_4 : decode prog_1_method_16_code 4 = .ok (.ifCond .lt 32, 3) := by decide +kernel
theorem d_GL_take_36 : decode prog_1_method_16_code 36 = .ok (.return_, 1) := by decide +kernel
theorem d_GL_take_7 : decode prog_1_method_16_code 7 = .ok (.aload_n 0, 1) := by decide +kernel
theorem d_GL_take_8 : decode prog_1_method_16_code 8 = .ok (.getfield 9, 3) := by decide +kernel
theorem d_GL_take_11 : decode prog_1_method_16_code 11 = .ok (.aload_n 0, 1) := by decide +kernel
theorem d_GL_take_12 : decode prog_1_method_16_code 12 = .ok (.getfield 58, 3) := by decide +kernel
theorem d_GL_take_15 : decode prog_1_method_16_code 15 = .ok (.iload_n 1, 1) := by decide +kernel
theorem d_GL_take_16 : decode prog_1_method_16_code 16 = .ok (.iload_n 2, 1) := by decide +kernel
theorem d_GL_take_17 : decode prog_1_method_16_code 17 = .ok (.ishr, 1) := by decide +kernel
theorem d_GL_take_18 : decode prog_1_method_16_code 18 = .ok (.i2b, 1) := by decide +kernel
theorem d_GL_take_19 : decode prog_1_method_16_code 19 = .ok (.bastore, 1) := by decide +kernel
theorem d_GL_take_20 : decode prog_1_method_16_code 20 = .ok (.aload_n 0, 1) := by decide +kernel
theorem d_GL_take_21 : decode prog_1_method_16_code 21 = .ok (.dup, 1) := by decide +kernel
theorem d_GL_take_22 : decode prog_1_method_16_code 22 = .ok (.getfield 58, 3) := by decide +kernel
theorem d_GL_take_25 : decode prog_1_method_16_code 25 = .ok (.iconst 1, 1) := by decide +kernel
theorem d_GL_take_26 : decode prog_1_method_16_code 26 = .ok (.iadd, 1) := by decide +kernel
theorem d_GL_take_27 : decode prog_1_method_16_code 27 = .ok (.putfield 58, 3) := by decide +kernel
theorem d_GL_take_30 : decode prog_1_method_16_code 30 = .ok (.iinc 2 (-8), 3) := by decide +kernel
theorem d_GL_take_33 : decode prog_1_method_16_code 33 = .ok (.goto (-30), 3) := by decide +kernel
set_option maxHeartbeats 4000000 in
theorem w_GL_take_0 {l : Launch} {G : gG} {d : Nat} {X : gX} {M : gM} {k : gM → Prop} {c : Nat} (hX : glX X c) {x1 : Int} (hx1 : g32 x1)  (T : wp l G y_GL_take (gRm d) true (kkV X k) true 3 [.val (gR G c), .val (gI x1), .val (gI 24)] [] X M 0 0) : wp l G y_GL_take (gRm d) true (kkV X k) false 0 [.val (gR G c), .val (gI x1), .unset] [] X M 0 0 := by
  refine wp_bipush d_GL_take_0 ⟨by decide, by decide⟩ ?_
  refine wp_istore_n (L' := [.val (gR G c), .val (gI x1), .val (gI 24)]) d_GL_take_2 rfl (by decide) rfl ?_
  exact wp_md (wpt T (And.intro rfl (And.intro rfl (And.intro rfl True.intro))))
set_option maxHeartbeats 4000000 in
theorem w_GL_take_3 {l : Launch} {G : gG} {d : Nat} {X : gX} {M : gM} {k : gM → Prop} {c : Nat} (hX : glX X c) {x1 : Int} (hx1 : g32 x1) {x2 : Int} (hx2 : g32 x2)  (T : (x2 < 0 → (k M)) ∧ (¬ x2 < 0 → (g32 (M c 1) → (((0 : Int) ≤ M c 1 ∧ M c 1 < 240) ∧ (g32 ((gUp M (c + 1) (Int.toNat (M c 1)) (gByte (gByte (gShr x1 x2)))) c 1) → (wp l G y_GL_take (gRm d) true (kkV X k) true 3 [.val (gR G c), .val (gI x1), .val (gI (w32 (x2 + (-8))))] [] X (gUp (gUp M (c + 1) (Int.toNat (M c 1)) (gByte (gByte (gShr x1 x2)))) c 1 (w32 (((gUp M (c + 1) (Int.toNat (M c 1)) (gByte (gByte (gShr x1 x2)))) c 1) + 1))) 0 0)))))) : wp l G y_GL_take (gRm d) true (kkV X k) true 3 [.val (gR G c), .val (gI x1), .val (gI x2)] [] X M 0 0 := by
  refine wp_iload_n d_GL_take_3 rfl rfl ?_
  refine xz_lt (tgt := 36) d_GL_take_4 (by decide) (w32_id hx2) (fun h3 => ?_) (fun h3 => ?_)
  · have T := T.1 h3
    exact wp_return d_GL_take_36 rfl (fun _ => rfl) (Nat.zero_le _) (Nat.zero_le _) (kV_mk T)
  · have T := T.2 h3
    refine wp_aload_n d_GL_take_7 rfl rfl (g_nz (gl_1 hX 0)) ?_
    refine xgetR d_GL_take_8 gc_GL f_GL_9.1 f_GL_9.2.1 f_GL_9.2.2.1 (gl_1 hX 0) (gl_2 hX (a := 0) (by decide)) (gl_s0 hX) f_GL_9.2.2.2.2.1 (gl_f0 hX 0 rfl) ?_
    refine wp_aload_n d_GL_take_11 rfl rfl (g_nz (gl_1 hX 0)) ?_
    refine xgetI d_GL_take_12 gc_GL f_GL_58.1 f_GL_58.2.1 f_GL_58.2.2.1 (gl_1 hX 0) (gl_2 hX (a := 0) (by decide)) (gl_s0 hX) f_GL_58.2.2.2.2.1 (fun h1 => ?_)
    have T := T h1
    refine wp_iload_n d_GL_take_15 rfl rfl ?_
    refine wp_iload_n d_GL_take_16 rfl rfl ?_
    refine wp_ishr d_GL_take_17 ?_
    refine wp_i2b d_GL_take_18 ?_
    refine xbast d_GL_take_19 (gl_1 hX 1) (gl_2 hX (a := 1) (by decide)) (gl_s hX 1 rfl) (by decide) T.1 ?_
    have T := T.2
    refine wp_aload_n d_GL_take_20 rfl rfl (g_nz (gl_1 hX 0)) ?_
    refine wp_dup d_GL_take_21 (gR_cat _) ?_
    refine xgetI d_GL_take_22 gc_GL f_GL_58.1 f_GL_58.2.1 f_GL_58.2.2.1 (gl_1 hX 0) (gl_2 hX (a := 0) (by decide)) (gl_s0 hX) f_GL_58.2.2.2.2.1 (fun h2 => ?_)
    have T := T h2
    refine wp_iconst d_GL_take_25 ?_
    refine wp_iadd d_GL_take_26 ?_
    refine xputI d_GL_take_27 gc_GL f_GL_58.1 f_GL_58.2.1 f_GL_58.2.2.1 (gl_1 hX 0) (gl_2 hX (a := 0) (by decide)) (gl_s0 hX) f_GL_58.2.2.2.1 f_GL_58.2.2.2.2.1 f_GL_58.2.2.2.2.2 rfl ?_
    refine wp_iinc (L' := [.val (gR G c), .val (gI x1), .val (gI (x2 + (-8)))]) d_GL_take_30 rfl (by decide) rfl ?_
    refine wp_goto (tgt := 3) d_GL_take_33 (by decide) ?_
    exact wp_md (wpt T (And.intro rfl (And.intro rfl (And.intro (gI_w _) True.intro))))
theorem e_GL_take {l : Launch} {G : gG} {d : Nat} {X : gX} {M : gM} {k : gM → Prop} {c : Nat} {x1 : Int} (T : wp l G y_GL_take (gRm d) true (kkV X k) false 0 [.val (gR G c), .val (gI x1), .unset] [] X M 0 0) : cV l G y_GL_take (gRm d) true [gR G c, gI x1] X M k := cen_V (plainFor_of_name rfl) (by simp only [lg_sl_R, lg_sl_I, lg_sl_L, lg_sl_N, List.length_cons, List.length_nil]; decide) (by unfold gEn; simp only [lg_sl_R, lg_sl_I, lg_sl_L, lg_sl_N]; exact wpt T (And.intro rfl (And.intro rfl True.intro)))
theorem d_GL_needCell_0 : decode prog_1_method_18_code 0 = .ok (.iload_n 0, 1) := by decide +kernel
theorem d_GL_needCell_1 : decode prog_1_method_18_code 1 = .ok (.ifCond .lt 24, 3) := by decide +kernel
theorem d_GL_needCell_25 : decode prog_1_method_18_code 25 = .ok (.iconst 0, 1) := by decide +kernel
theorem d_GL_needCell_26 : decode prog_1_method_18_code 26 = .ok (.invokestatic 69, 3) := by decide +kernel
theorem d_GL_needCell_29 : decode prog_1_method_18_code 29 = .ok (.return_, 1) := by decide +kernel
theorem d_GL_needCell_4 : decode prog_1_method_18_code 4 = .ok (.iload_n 0, 1) := by decide +kernel
theorem d_GL_needCell_5 : decode prog_1_method_18_code 5 = .ok (.bipush 26, 2) := by decide +kernel
theorem d_GL_needCell_7 : decode prog_1_method_18_code 7 = .ok (.if_icmp .ge 18, 3) := by decide +kernel
theorem d_GL_needCell_10 : decode prog_1_method_18_code 10 = .ok (.iload_n 1, 1) := by decide +kernel
theorem d_GL_needCell_11 : decode prog_1_method_18_code 11 = .ok (.ifCond .lt 14, 3) := by decide +kernel
theorem d_GL_needCell_14 : decode prog_1_method_18_code 14 = .ok (.iload_n 1, 1) := by decide +kernel
theorem d_GL_needCell_15 : decode prog_1_method_18_code 15 = .ok (.sipush 200, 3) := by decide +kernel
theorem d_GL_needCell_18 : decode prog_1_method_18_code 18 = .ok (.if_icmp .ge 7, 3) := by decide +kernel
theorem d_GL_needCell_21 : decode prog_1_method_18_code 21 = .ok (.iconst 1, 1) := by decide +kernel
theorem d_GL_needCell_22 : decode prog_1_method_18_code 22 = .ok (.goto 4, 3) := by decide +kernel
theorem d_GL_place_0 : decode prog_1_method_19_code 0 = .ok (.iload_n 0, 1) := by decide +kernel
theorem d_GL_place_1 : decode prog_1_method_19_code 1 = .ok (.bipush 26, 2) := by decide +kernel
theorem d_GL_place_3 : decode prog_1_method_19_code 3 = .ok (.iload_n 1, 1) := by decide +kernel
theorem d_GL_place_4 : decode prog_1_method_19_code 4 = .ok (.imul, 1) := by decide +kernel
theorem d_GL_place_5 : decode prog_1_method_19_code 5 = .ok (.iadd, 1) := by decide +kernel
theorem d_GL_place_6 : decode prog_1_method_19_code 6 = .ok (.ireturn, 1) := by decide +kernel
set_option maxHeartbeats 4000000 in
theorem w_GL_place_0 {l : Launch} {G : gG} {d : Nat} {X : gX} {M : gM} {k : Int → gM → Prop}  {x0 : Int} (hx0 : g32 x0) {x1 : Int} (hx1 : g32 x1)  (T : k (w32 (x0 + (26 * x1))) M) : wp l G y_GL_place (gRm d) false (kkI X k) false 0 [.val (gI x0), .val (gI x1)] [] X M 0 0 := by
  refine wp_iload_n d_GL_place_0 rfl rfl ?_
  refine wp_bipush d_GL_place_1 ⟨by decide, by decide⟩ ?_
  refine wp_iload_n d_GL_place_3 rfl rfl ?_
  refine wp_imul d_GL_place_4 ?_
  refine wp_iadd d_GL_place_5 ?_
  exact wp_st (st' := [gI (w32 (x0 + (26 * x1)))]) (by rw [gI_w]) (wp_ireturn d_GL_place_6 rfl id (Nat.zero_le _) (Nat.zero_le _) (kI_mk (w32_ok _) T))
theorem e_GL_place {l : Launch} {G : gG} {d : Nat} {X : gX} {M : gM} {k : Int → gM → Prop}  {x0 : Int} {x1 : Int} (T : wp l G y_GL_place (gRm d) false (kkI X k) false 0 [.val (gI x0), .val (gI x1)] [] X M 0 0) : cI l G y_GL_place (gRm d) false [gI x0, gI x1] X M k := cen_I (plainFor_of_name rfl) (by simp only [lg_sl_R, lg_sl_I, lg_sl_L, lg_sl_N, List.length_cons, List.length_nil]; decide) (by unfold gEn; simp only [lg_sl_R, lg_sl_I, lg_sl_L, lg_sl_N]; exact wpt T (And.intro rfl (And.intro rfl True.intro)))
theorem d_GL_lines_0 : decode prog_1_method_20_code 0 = .ok (.iload_n 0, 1) := by decide +kernel
theorem d_GL_lines_1 : decode prog_1_method_20_code 1 = .ok (.ifCond .eq 8, 3) := by decide +kernel
theorem d_GL_lines_9 : decode prog_1_method_20_code 9 = .ok (.sipush 200, 3) := by decide +kernel
theorem d_GL_lines_12 : decode prog_1_method_20_code 12 = .ok (.ireturn, 1) := by decide +kernel
theorem d_GL_lines_4 : decode prog_1_method_20_code 4 = .ok (.bipush 26, 2) := by decide +kernel
theorem d_GL_lines_6 : decode prog_1_method_20_code 6 = .ok (.goto 6, 3) := by decide +kernel
set_option maxHeartbeats 4000000 in
theorem w_GL_lines_0 {l : Launch} {G : gG} {d : Nat} {X : gX} {M : gM} {k : Int → gM → Prop}  {x0 : Int} (hx0 : 0 ≤ x0 ∧ x0 ≤ 1)  (T : (x0 = 0 → (k 200 M)) ∧ (¬ x0 = 0 → (k 26 M))) : wp l G y_GL_lines (gRm d) false (kkI X k) false 0 [.val (gI x0)] [] X M 0 0 := by
  refine wp_iload_n d_GL_lines_0 rfl rfl ?_
  refine xz_eq (tgt := 9) d_GL_lines_1 (by decide) (w32_id (g32_z hx0)) (fun h1 => ?_) (fun h1 => ?_)
  · have T := T.1 h1
    refine wp_sipush d_GL_lines_9 ⟨by decide, by decide⟩ ?_
    exact wp_ireturn d_GL_lines_12 rfl id (Nat.zero_le _) (Nat.zero_le _) (kI_mk (g32_c (x := 200) rfl) T)
  · have T := T.2 h1
    refine wp_bipush d_GL_lines_4 ⟨by decide, by decide⟩ ?_
    refine wp_goto (tgt := 12) d_GL_lines_6 (by decide) ?_
    exact wp_ireturn d_GL_lines_12 rfl id (Nat.zero_le _) (Nat.zero_le _) (kI_mk (g32_c (x := 26) rfl) T)
theorem e_GL_lines {l : Launch} {G : gG} {d : Nat} {X : gX} {M : gM} {k : Int → gM → Prop}  {x0 : Int} (T : wp l G y_GL_lines (gRm d) false (kkI X k) false 0 [.val (gI x0)] [] X M 0 0) : cI l G y_GL_lines (gRm d) false [gI x0] X M k := cen_I (plainFor_of_name rfl) (by simp only [lg_sl_R, lg_sl_I, lg_sl_L, lg_sl_N, List.length_cons, List.length_nil]; decide) (by unfold gEn; simp only [lg_sl_R, lg_sl_I, lg_sl_L, lg_sl_N]; exact wpt T (And.intro rfl True.intro))
theorem d_GL_formulas_0 : decode prog_1_method_22_code 0 = .ok (.iconst 0, 1) := by decide +kernel
theorem d_GL_formulas_1 : decode prog_1_method_22_code 1 = .ok (.istore_n 1, 1) := by decide +kernel
theorem d_GL_formulas_2 : decode prog_1_method_22_code 2 = .ok (.iconst 0, 1) := by decide +kernel
theorem d_GL_formulas_3 : decode prog_1_method_22_code 3 = .ok (.istore_n 2, 1) := by decide +kernel
theorem d_GL_formulas_4 : decode prog_1_method_22_code 4 = .ok (.iload_n 2, 1) := by decide +kernel
theorem d_GL_formulas_5 : decode prog_1_method_22_code 5 = .ok (.aload_n 0, 1) := by decide +kernel
theorem d_GL_formulas_6 : decode prog_1_method_22_code 6 = .ok (.getfield 40, 3) := by decide +kernel
theorem d_GL_formulas_9 : decode prog_1_method_22_code 9 = .ok (.aload_n 0, 1) := by decide +kernel
theorem d_GL_formulas_10 : decode prog_1_method_22_code 10 = .ok (.getfield 81, 3) := by decide +kernel
theorem d_GL_formulas_13 : decode prog_1_method_22_code 13 = .ok (.aaload, 1) := by decide +kernel
theorem d_GL_formulas_14 : decode prog_1_method_22_code 14 = .ok (.getfield 173, 3) := by decide +kernel
theorem d_GL_formulas_17 : decode prog_1_method_22_code 17 = .ok (.if_icmp .ge 38, 3) := by decide +kernel
theorem d_GL_formulas_55 : decode prog_1_method_22_code 55 = .ok (.iload_n 1, 1) := by decide +kernel
theorem d_GL_formulas_56 : decode prog_1_method_22_code 56 = .ok (.ireturn, 1) := by decide +kernel
theorem d_GL_formulas_20 : decode prog_1_method_22_code 20 = .ok (.aload_n 0, 1) := by decide +kernel
theorem d_GL_formulas_21 : decode prog_1_method_22_code 21 = .ok (.getfield 16, 3) := by decide +kernel
theorem d_GL_formulas_24 : decode prog_1_method_22_code 24 = .ok (.getfield 151, 3) := by decide +kernel
theorem d_GL_formulas_27 : decode prog_1_method_22_code 27 = .ok (.aload_n 0, 1) := by decide +kernel
theorem d_GL_formulas_28 : decode prog_1_method_22_code 28 = .ok (.getfield 40, 3) := by decide +kernel
theorem d_GL_formulas_31 : decode prog_1_method_22_code 31 = .ok (.aload_n 0, 1) := by decide +kernel
theorem d_GL_formulas_32 : decode prog_1_method_22_code 32 = .ok (.getfield 81, 3) := by decide +kernel
theorem d_GL_formulas_35 : decode prog_1_method_22_code 35 = .ok (.aaload, 1) := by decide +kernel
theorem d_GL_formulas_36 : decode prog_1_method_22_code 36 = .ok (.getfield 152, 3) := by decide +kernel
theorem d_GL_formulas_39 : decode prog_1_method_22_code 39 = .ok (.iload_n 2, 1) := by decide +kernel
theorem d_GL_formulas_40 : decode prog_1_method_22_code 40 = .ok (.iaload, 1) := by decide +kernel
theorem d_GL_formulas_41 : decode prog_1_method_22_code 41 = .ok (.iaload, 1) := by decide +kernel
theorem d_GL_formulas_42 : decode prog_1_method_22_code 42 = .ok (.iconst 3, 1) := by decide +kernel
theorem d_GL_formulas_43 : decode prog_1_method_22_code 43 = .ok (.if_icmp .ne 6, 3) := by decide +kernel
theorem d_GL_formulas_49 : decode prog_1_method_22_code 49 = .ok (.iinc 2 1, 3) := by decide +kernel
theorem d_GL_formulas_52 : decode prog_1_method_22_code 52 = .ok (.goto (-48), 3) := by decide +kernel
theorem d_GL_formulas_46 : decode prog_1_method_22_code 46 = .ok (.iinc 1 1, 3) := by decide +kernel
set_option maxHeartbeats 4000000 in
theorem w_GL_formulas_0 {l : Launch} {G : gG} {d : Nat} {X : gX} {M : gM} {k : Int → gM → Prop} {c : Nat} (hX : glX X c)   (T : wp l G y_GL_formulas (gRm d) false (kkI X k) false 4 [.val (gR G c), .val (gI 0), .val (gI 0)] [] X M 0 0) : wp l G y_GL_formulas (gRm d) false (kkI X k) false 0 [.val (gR G c), .unset, .unset] [] X M 0 0 := by
  refine wp_iconst d_GL_formulas_0 ?_
  refine wp_istore_n (L' := [.val (gR G c), .val (gI 0), .unset]) d_GL_formulas_1 rfl (by decide) (gS1_R rfl rfl) ?_
  refine wp_iconst d_GL_formulas_2 ?_
  refine wp_istore_n (L' := [.val (gR G c), .val (gI 0), .val (gI 0)]) d_GL_formulas_3 rfl (by decide) rfl ?_
  exact (wpt T (And.intro rfl (And.intro rfl (And.intro rfl True.intro))))
set_option maxHeartbeats 4000000 in
theorem w_GL_formulas_4 {l : Launch} {G : gG} {d : Nat} {X : gX} {M : gM} {k : Int → gM → Prop} {c : Nat} (hX : glX X c) {x1 : Int} (hx1 : g32 x1) {x2 : Int} (hx2 : g32 x2) (hring : ∀ i : Nat, i < 41 → gsX X (X.2.2 (c + 23) i)) (T : g32 (M c 8) → (((0 : Int) ≤ M c 8 ∧ M c 8 < 41) ∧ (g32 (M (X.2.2 (c + 23) (Int.toNat (M c 8))) 0) → ((M (X.2.2 (c + 23) (Int.toNat (M c 8))) 0 ≤ x2 → (k x1 M)) ∧ (¬ M (X.2.2 (c + 23) (Int.toNat (M c 8))) 0 ≤ x2 → (g32 (M c 8) → (((0 : Int) ≤ M c 8 ∧ M c 8 < 41) ∧ (((0 : Int) ≤ x2 ∧ x2 < 400) ∧ (g32 (M ((X.2.2 (c + 23) (Int.toNat (M c 8))) + 2) (Int.toNat x2)) → (((0 : Int) ≤ M ((X.2.2 (c + 23) (Int.toNat (M c 8))) + 2) (Int.toNat x2) ∧ M ((X.2.2 (c + 23) (Int.toNat (M c 8))) + 2) (Int.toNat x2) < 513) ∧ (g32 (M (c + 3) (Int.toNat (M ((X.2.2 (c + 23) (Int.toNat (M c 8))) + 2) (Int.toNat x2)))) → ((¬ M (c + 3) (Int.toNat (M ((X.2.2 (c + 23) (Int.toNat (M c 8))) + 2) (Int.toNat x2))) = 3 → (wp l G y_GL_formulas (gRm d) false (kkI X k) false 4 [.val (gR G c), .val (gI x1), .val (gI (w32 (x2 + 1)))] [] X M 0 0)) ∧ (M (c + 3) (Int.toNat (M ((X.2.2 (c + 23) (Int.toNat (M c 8))) + 2) (Int.toNat x2))) = 3 → (wp l G y_GL_formulas (gRm d) false (kkI X k) false 4 [.val (gR G c), .val (gI (w32 (x1 + 1))), .val (gI (w32 (x2 + 1)))] [] X M 0 0)))))))))))))) : wp l G y_GL_formulas (gRm d) false (kkI X k) false 4 [.val (gR G c), .val (gI x1), .val (gI x2)] [] X M 0 0 := by
  refine wp_iload_n d_GL_formulas_4 rfl rfl ?_
  refine wp_aload_n d_GL_formulas_5 rfl rfl (g_nz (gl_1 hX 0)) ?_
  refine xgetR d_GL_formulas_6 gc_GL f_GL_40.1 f_GL_40.2.1 f_GL_40.2.2.1 (gl_1 hX 0) (gl_2 hX (a := 0) (by decide)) (gl_s0 hX) f_GL_40.2.2.2.2.1 (gl_f0 hX 26 rfl) ?_
  refine wp_aload_n d_GL_formulas_9 rfl rfl (g_nz (gl_1 hX 0)) ?_
  refine xgetI d_GL_formulas_10 gc_GL f_GL_81.1 f_GL_81.2.1 f_GL_81.2.2.1 (gl_1 hX 0) (gl_2 hX (a := 0) (by decide)) (gl_s0 hX) f_GL_81.2.2.2.2.1 (fun h1 => ?_)
  have T := T h1
  have h2 := T.1
  refine xaald d_GL_formulas_13 (Or.inr rfl) (gl_1 hX 23) (gl_2 hX (a := 23) (by decide)) (gl_s hX 23 rfl) (g32_n h2 (by decide)) h2.1 h2.2 rfl ?_
  have T := T.2
  refine xgetI d_GL_formulas_14 gc_St f_GL_173.1 f_GL_173.2.1 f_GL_173.2.2.1 (hring _ (g_tn h2)).1 (gs_2 (hring _ (g_tn h2))) (hring _ (g_tn h2)).2.2.1 f_GL_173.2.2.2.2.1 (fun h3 => ?_)
  have T := T h3
  refine xi_ge (tgt := 55) d_GL_formulas_17 (by decide) (w32_id hx2) (w32_id h3) (fun h9 => ?_) (fun h9 => ?_)
  · have T := T.1 h9
    refine wp_iload_n d_GL_formulas_55 rfl rfl ?_
    exact wp_ireturn d_GL_formulas_56 rfl id (Nat.zero_le _) (Nat.zero_le _) (kI_mk hx1 T)
  · have T := T.2 h9
    refine wp_aload_n d_GL_formulas_20 rfl rfl (g_nz (gl_1 hX 0)) ?_
    refine xgetR d_GL_formulas_21 gc_GL f_GL_16.1 f_GL_16.2.1 f_GL_16.2.2.1 (gl_1 hX 0) (gl_2 hX (a := 0) (by decide)) (gl_s0 hX) f_GL_16.2.2.2.2.1 (gl_f0 hX 1 rfl) ?_
    refine xgetR d_GL_formulas_24 gc_Cn f_GL_151.1 f_GL_151.2.1 f_GL_151.2.2.1 (gl_1 hX 2) (gl_2 hX (a := 2) (by decide)) (gl_s hX 2 rfl) f_GL_151.2.2.2.2.1 (gl_f hX 2 rfl) ?_
    refine wp_aload_n d_GL_formulas_27 rfl rfl (g_nz (gl_1 hX 0)) ?_
    refine xgetR d_GL_formulas_28 gc_GL f_GL_40.1 f_GL_40.2.1 f_GL_40.2.2.1 (gl_1 hX 0) (gl_2 hX (a := 0) (by decide)) (gl_s0 hX) f_GL_40.2.2.2.2.1 (gl_f0 hX 26 rfl) ?_
    refine wp_aload_n d_GL_formulas_31 rfl rfl (g_nz (gl_1 hX 0)) ?_
    refine xgetI d_GL_formulas_32 gc_GL f_GL_81.1 f_GL_81.2.1 f_GL_81.2.2.1 (gl_1 hX 0) (gl_2 hX (a := 0) (by decide)) (gl_s0 hX) f_GL_81.2.2.2.2.1 (fun h4 => ?_)
    have T := T h4
    have h5 := T.1
    refine xaald d_GL_formulas_35 (Or.inr rfl) (gl_1 hX 23) (gl_2 hX (a := 23) (by decide)) (gl_s hX 23 rfl) (g32_n h5 (by decide)) h5.1 h5.2 rfl ?_
    have T := T.2
    refine xgetR d_GL_formulas_36 gc_St f_GL_152.1 f_GL_152.2.1 f_GL_152.2.2.1 (hring _ (g_tn h5)).1 (gs_2 (hring _ (g_tn h5))) (hring _ (g_tn h5)).2.2.1 f_GL_152.2.2.2.2.1 (gs_r (hring _ (g_tn h5)) 1 rfl).1 ?_
    refine wp_iload_n d_GL_formulas_39 rfl rfl ?_
    refine wp_iaload d_GL_formulas_40 (gs_r (hring _ (g_tn h5)) 1 rfl).2.2.1 (gs_r (hring _ (g_tn h5)) 1 rfl).2.2.2 (gs_r (hring _ (g_tn h5)) 1 rfl).2.1 (g32_n T.1 (by decide)) T.1.1 T.1.2 (fun h6 => ?_)
    have T := T.2 h6
    refine wp_iaload d_GL_formulas_41 (gl_1 hX 3) (gl_2 hX (a := 3) (by decide)) (gl_s hX 3 rfl) (g32_n T.1 (by decide)) T.1.1 T.1.2 (fun h7 => ?_)
    have T := T.2 h7
    refine wp_iconst d_GL_formulas_42 ?_
    refine xi_ne (tgt := 49) d_GL_formulas_43 (by decide) (w32_id h7) (w32_id (g32_c (x := 3) rfl)) (fun h8 => ?_) (fun h8 => ?_)
    · have T := T.1 h8
      refine wp_iinc (L' := [.val (gR G c), .val (gI x1), .val (gI (x2 + 1))]) d_GL_formulas_49 rfl (by decide) rfl ?_
      refine wp_goto (tgt := 4) d_GL_formulas_52 (by decide) ?_
      exact (wpt T (And.intro rfl (And.intro rfl (And.intro (gI_w _) True.intro))))
    · have T := T.2 h8
      refine wp_iinc (L' := [.val (gR G c), .val (gI (x1 + 1)), .val (gI x2)]) d_GL_formulas_46 rfl (by decide) (gS1_R rfl rfl) ?_
      refine wp_iinc (L' := [.val (gR G c), .val (gI (x1 + 1)), .val (gI (x2 + 1))]) d_GL_formulas_49 rfl (by decide) rfl ?_
      refine wp_goto (tgt := 4) d_GL_formulas_52 (by decide) ?_
      exact (wpt T (And.intro rfl (And.intro (gI_w _) (And.intro (gI_w _) True.intro))))
theorem e_GL_formulas {l : Launch} {G : gG} {d : Nat} {X : gX} {M : gM} {k : Int → gM → Prop} {c : Nat} (T : wp l G y_GL_formulas (gRm d) false (kkI X k) false 0 [.val (gR G c), .unset, .unset] [] X M 0 0) : cI l G y_GL_formulas (gRm d) false [gR G c] X M k := cen_I (plainFor_of_name rfl) (by simp only [lg_sl_R, lg_sl_I, lg_sl_L, lg_sl_N, List.length_cons, List.length_nil]; decide) (by unfold gEn; simp only [lg_sl_R, lg_sl_I, lg_sl_L, lg_sl_N]; exact wpt T (And.intro rfl True.intro))
