theorem dX0_init_0 : decode cX0_init 0 = .ok (.aload_n 0, 1) := by decide +kernel
theorem dX0_init_1 : decode cX0_init 1 = .ok (.invokespecial 3, 3) := by decide +kernel
theorem dX0_init_4 : decode cX0_init 4 = .ok (.aload_n 0, 1) := by decide +kernel
theorem dX0_init_5 : decode cX0_init 5 = .ok (.sipush 2000, 3) := by decide +kernel
theorem dX0_init_8 : decode cX0_init 8 = .ok (.newarray .int, 2) := by decide +kernel
theorem dX0_init_10 : decode cX0_init 10 = .ok (.putfield 11, 3) := by decide +kernel
theorem dX0_init_13 : decode cX0_init 13 = .ok (.aload_n 0, 1) := by decide +kernel
theorem dX0_init_14 : decode cX0_init 14 = .ok (.bipush 40, 2) := by decide +kernel
theorem dX0_init_16 : decode cX0_init 16 = .ok (.newarray .int, 2) := by decide +kernel
theorem dX0_init_18 : decode cX0_init 18 = .ok (.putfield 15, 3) := by decide +kernel
theorem dX0_init_21 : decode cX0_init 21 = .ok (.aload_n 0, 1) := by decide +kernel
theorem dX0_init_22 : decode cX0_init 22 = .ok (.bipush 100, 2) := by decide +kernel
theorem dX0_init_24 : decode cX0_init 24 = .ok (.newarray .int, 2) := by decide +kernel
theorem dX0_init_26 : decode cX0_init 26 = .ok (.putfield 18, 3) := by decide +kernel
theorem dX0_init_29 : decode cX0_init 29 = .ok (.return_, 1) := by decide +kernel
theorem dX0_follow_0 : decode cX0_follow 0 = .ok (.aload_n 1, 1) := by decide +kernel
theorem dX0_follow_1 : decode cX0_follow 1 = .ok (.getfield 21, 3) := by decide +kernel
theorem dX0_follow_4 : decode cX0_follow 4 = .ok (.iconst 0, 1) := by decide +kernel
theorem dX0_follow_5 : decode cX0_follow 5 = .ok (.aload_n 0, 1) := by decide +kernel
theorem dX0_follow_6 : decode cX0_follow 6 = .ok (.getfield 15, 3) := by decide +kernel
theorem dX0_follow_9 : decode cX0_follow 9 = .ok (.iconst 0, 1) := by decide +kernel
theorem dX0_follow_10 : decode cX0_follow 10 = .ok (.bipush 40, 2) := by decide +kernel
theorem dX0_follow_12 : decode cX0_follow 12 = .ok (.invokestatic 24, 3) := by decide +kernel
theorem dX0_follow_15 : decode cX0_follow 15 = .ok (.aload_n 0, 1) := by decide +kernel
theorem dX0_follow_16 : decode cX0_follow 16 = .ok (.iconst 0, 1) := by decide +kernel
theorem dX0_follow_17 : decode cX0_follow 17 = .ok (.putfield 30, 3) := by decide +kernel
theorem dX0_follow_20 : decode cX0_follow 20 = .ok (.aload_n 0, 1) := by decide +kernel
theorem dX0_follow_21 : decode cX0_follow 21 = .ok (.iconst 2, 1) := by decide +kernel
theorem dX0_follow_22 : decode cX0_follow 22 = .ok (.putfield 34, 3) := by decide +kernel
theorem dX0_follow_25 : decode cX0_follow 25 = .ok (.aload_n 0, 1) := by decide +kernel
theorem dX0_follow_26 : decode cX0_follow 26 = .ok (.iconst 0, 1) := by decide +kernel
theorem dX0_follow_27 : decode cX0_follow 27 = .ok (.putfield 37, 3) := by decide +kernel
theorem dX0_follow_30 : decode cX0_follow 30 = .ok (.aload_n 0, 1) := by decide +kernel
theorem dX0_follow_31 : decode cX0_follow 31 = .ok (.aload_n 1, 1) := by decide +kernel
theorem dX0_follow_32 : decode cX0_follow 32 = .ok (.getfield 40, 3) := by decide +kernel
theorem dX0_follow_35 : decode cX0_follow 35 = .ok (.putfield 43, 3) := by decide +kernel
theorem dX0_follow_38 : decode cX0_follow 38 = .ok (.aload_n 0, 1) := by decide +kernel
theorem dX0_follow_39 : decode cX0_follow 39 = .ok (.iconst 0, 1) := by decide +kernel
theorem dX0_follow_40 : decode cX0_follow 40 = .ok (.putfield 46, 3) := by decide +kernel
theorem dX0_follow_43 : decode cX0_follow 43 = .ok (.aload_n 0, 1) := by decide +kernel
theorem dX0_follow_44 : decode cX0_follow 44 = .ok (.getfield 34, 3) := by decide +kernel
theorem dX0_follow_47 : decode cX0_follow 47 = .ok (.iconst 2, 1) := by decide +kernel
theorem dX0_follow_48 : decode cX0_follow 48 = .ok (.if_icmp .ne 31, 3) := by decide +kernel
theorem dX0_follow_51 : decode cX0_follow 51 = .ok (.aload_n 0, 1) := by decide +kernel
theorem dX0_follow_52 : decode cX0_follow 52 = .ok (.getfield 30, 3) := by decide +kernel
theorem dX0_follow_55 : decode cX0_follow 55 = .ok (.sipush 2000, 3) := by decide +kernel
theorem dX0_follow_58 : decode cX0_follow 58 = .ok (.if_icmp .ge 21, 3) := by decide +kernel
theorem dX0_follow_61 : decode cX0_follow 61 = .ok (.aload_n 0, 1) := by decide +kernel
theorem dX0_follow_62 : decode cX0_follow 62 = .ok (.aload_n 1, 1) := by decide +kernel
theorem dX0_follow_63 : decode cX0_follow 63 = .ok (.invokevirtual 49, 3) := by decide +kernel
theorem dX0_follow_66 : decode cX0_follow 66 = .ok (.aload_n 0, 1) := by decide +kernel
theorem dX0_follow_67 : decode cX0_follow 67 = .ok (.dup, 1) := by decide +kernel
theorem dX0_follow_68 : decode cX0_follow 68 = .ok (.getfield 30, 3) := by decide +kernel
theorem dX0_follow_71 : decode cX0_follow 71 = .ok (.iconst 1, 1) := by decide +kernel
theorem dX0_follow_72 : decode cX0_follow 72 = .ok (.iadd, 1) := by decide +kernel
theorem dX0_follow_73 : decode cX0_follow 73 = .ok (.putfield 30, 3) := by decide +kernel
theorem dX0_follow_76 : decode cX0_follow 76 = .ok (.goto (-33), 3) := by decide +kernel
theorem dX0_follow_79 : decode cX0_follow 79 = .ok (.return_, 1) := by decide +kernel
theorem dX0_goStep_0 : decode cX0_goStep 0 = .ok (.aload_n 1, 1) := by decide +kernel
theorem dX0_goStep_1 : decode cX0_goStep 1 = .ok (.aload_n 0, 1) := by decide +kernel
theorem dX0_goStep_2 : decode cX0_goStep 2 = .ok (.getfield 43, 3) := by decide +kernel
theorem dX0_goStep_5 : decode cX0_goStep 5 = .ok (.invokevirtual 53, 3) := by decide +kernel
theorem dX0_goStep_8 : decode cX0_goStep 8 = .ok (.ifCond .eq 15, 3) := by decide +kernel
theorem dX0_goStep_11 : decode cX0_goStep 11 = .ok (.aload_n 0, 1) := by decide +kernel
theorem dX0_goStep_12 : decode cX0_goStep 12 = .ok (.getfield 15, 3) := by decide +kernel
theorem dX0_goStep_15 : decode cX0_goStep 15 = .ok (.aload_n 0, 1) := by decide +kernel
theorem dX0_goStep_16 : decode cX0_goStep 16 = .ok (.getfield 43, 3) := by decide +kernel
theorem dX0_goStep_19 : decode cX0_goStep 19 = .ok (.iaload, 1) := by decide +kernel
theorem dX0_goStep_20 : decode cX0_goStep 20 = .ok (.goto 4, 3) := by decide +kernel
theorem dX0_goStep_23 : decode cX0_goStep 23 = .ok (.iconst (-1), 1) := by decide +kernel
theorem dX0_goStep_24 : decode cX0_goStep 24 = .ok (.istore_n 2, 1) := by decide +kernel
theorem dX0_goStep_25 : decode cX0_goStep 25 = .ok (.aload_n 1, 1) := by decide +kernel
theorem dX0_goStep_26 : decode cX0_goStep 26 = .ok (.iload_n 2, 1) := by decide +kernel
theorem dX0_goStep_27 : decode cX0_goStep 27 = .ok (.invokevirtual 57, 3) := by decide +kernel
theorem dX0_goStep_30 : decode cX0_goStep 30 = .ok (.ifCond .ne 20, 3) := by decide +kernel
theorem dX0_goStep_33 : decode cX0_goStep 33 = .ok (.aload_n 0, 1) := by decide +kernel
theorem dX0_goStep_34 : decode cX0_goStep 34 = .ok (.iconst 1, 1) := by decide +kernel
theorem dX0_goStep_35 : decode cX0_goStep 35 = .ok (.putfield 34, 3) := by decide +kernel
theorem dX0_goStep_38 : decode cX0_goStep 38 = .ok (.aload_n 0, 1) := by decide +kernel
theorem dX0_goStep_39 : decode cX0_goStep 39 = .ok (.aload_n 0, 1) := by decide +kernel
theorem dX0_goStep_40 : decode cX0_goStep 40 = .ok (.getfield 43, 3) := by decide +kernel
theorem dX0_goStep_43 : decode cX0_goStep 43 = .ok (.bipush 63, 2) := by decide +kernel
theorem dX0_goStep_45 : decode cX0_goStep 45 = .ok (.iconst 0, 1) := by decide +kernel
theorem dX0_goStep_46 : decode cX0_goStep 46 = .ok (.invokevirtual 60, 3) := by decide +kernel
theorem dX0_goStep_49 : decode cX0_goStep 49 = .ok (.return_, 1) := by decide +kernel
theorem dX0_goStep_50 : decode cX0_goStep 50 = .ok (.iload_n 2, 1) := by decide +kernel
theorem dX0_goStep_51 : decode cX0_goStep 51 = .ok (.invokestatic 64, 3) := by decide +kernel
theorem dX0_goStep_54 : decode cX0_goStep 54 = .ok (.istore_n 3, 1) := by decide +kernel
theorem dX0_goStep_55 : decode cX0_goStep 55 = .ok (.iload_n 2, 1) := by decide +kernel
theorem dX0_goStep_56 : decode cX0_goStep 56 = .ok (.invokestatic 68, 3) := by decide +kernel
theorem dX0_goStep_59 : decode cX0_goStep 59 = .ok (.istore 4, 2) := by decide +kernel
theorem dX0_goStep_61 : decode cX0_goStep 61 = .ok (.iload_n 2, 1) := by decide +kernel
theorem dX0_goStep_62 : decode cX0_goStep 62 = .ok (.invokestatic 71, 3) := by decide +kernel
theorem dX0_goStep_65 : decode cX0_goStep 65 = .ok (.istore 5, 2) := by decide +kernel
theorem dX0_goStep_67 : decode cX0_goStep 67 = .ok (.aload_n 0, 1) := by decide +kernel
theorem dX0_goStep_68 : decode cX0_goStep 68 = .ok (.aload_n 0, 1) := by decide +kernel
theorem dX0_goStep_69 : decode cX0_goStep 69 = .ok (.getfield 43, 3) := by decide +kernel
theorem dX0_goStep_72 : decode cX0_goStep 72 = .ok (.iload_n 3, 1) := by decide +kernel
theorem dX0_goStep_73 : decode cX0_goStep 73 = .ok (.invokestatic 74, 3) := by decide +kernel
theorem dX0_goStep_76 : decode cX0_goStep 76 = .ok (.ifCond .eq 8, 3) := by decide +kernel
theorem dX0_goStep_79 : decode cX0_goStep 79 = .ok (.iload 4, 2) := by decide +kernel
theorem dX0_goStep_81 : decode cX0_goStep 81 = .ok (.goto 5, 3) := by decide +kernel
theorem dX0_goStep_84 : decode cX0_goStep 84 = .ok (.bipush 63, 2) := by decide +kernel
theorem dX0_goStep_86 : decode cX0_goStep 86 = .ok (.aload_n 0, 1) := by decide +kernel
theorem dX0_goStep_87 : decode cX0_goStep 87 = .ok (.iload_n 3, 1) := by decide +kernel
theorem dX0_goStep_88 : decode cX0_goStep 88 = .ok (.iload 4, 2) := by decide +kernel
theorem dX0_goStep_90 : decode cX0_goStep 90 = .ok (.invokevirtual 77, 3) := by decide +kernel
theorem dX0_goStep_93 : decode cX0_goStep 93 = .ok (.invokevirtual 60, 3) := by decide +kernel
theorem dX0_goStep_96 : decode cX0_goStep 96 = .ok (.iload_n 3, 1) := by decide +kernel
theorem dX0_goStep_97 : decode cX0_goStep 97 = .ok (.ifCond .ne 9, 3) := by decide +kernel
theorem dX0_goStep_100 : decode cX0_goStep 100 = .ok (.aload_n 0, 1) := by decide +kernel
theorem dX0_goStep_101 : decode cX0_goStep 101 = .ok (.iconst 0, 1) := by decide +kernel
theorem dX0_goStep_102 : decode cX0_goStep 102 = .ok (.putfield 34, 3) := by decide +kernel
theorem dX0_goStep_105 : decode cX0_goStep 105 = .ok (.return_, 1) := by decide +kernel
theorem dX0_goStep_106 : decode cX0_goStep 106 = .ok (.aload_n 0, 1) := by decide +kernel
theorem dX0_goStep_107 : decode cX0_goStep 107 = .ok (.iload_n 3, 1) := by decide +kernel
theorem dX0_goStep_108 : decode cX0_goStep 108 = .ok (.iload 4, 2) := by decide +kernel
theorem dX0_goStep_110 : decode cX0_goStep 110 = .ok (.invokevirtual 81, 3) := by decide +kernel
theorem dX0_goStep_113 : decode cX0_goStep 113 = .ok (.iload_n 3, 1) := by decide +kernel
theorem dX0_goStep_114 : decode cX0_goStep 114 = .ok (.bipush 6, 2) := by decide +kernel
theorem dX0_goStep_116 : decode cX0_goStep 116 = .ok (.if_icmp .ne 10, 3) := by decide +kernel
theorem dX0_goStep_119 : decode cX0_goStep 119 = .ok (.aload_n 0, 1) := by decide +kernel
theorem dX0_goStep_120 : decode cX0_goStep 120 = .ok (.getfield 37, 3) := by decide +kernel
theorem dX0_goStep_123 : decode cX0_goStep 123 = .ok (.ifCond .lt 16, 3) := by decide +kernel
theorem dX0_goStep_126 : decode cX0_goStep 126 = .ok (.iload_n 3, 1) := by decide +kernel
theorem dX0_goStep_127 : decode cX0_goStep 127 = .ok (.bipush 7, 2) := by decide +kernel
theorem dX0_goStep_129 : decode cX0_goStep 129 = .ok (.if_icmp .ne 14, 3) := by decide +kernel
theorem dX0_goStep_132 : decode cX0_goStep 132 = .ok (.aload_n 0, 1) := by decide +kernel
theorem dX0_goStep_133 : decode cX0_goStep 133 = .ok (.getfield 37, 3) := by decide +kernel
theorem dX0_goStep_136 : decode cX0_goStep 136 = .ok (.ifCond .ne 7, 3) := by decide +kernel
theorem dX0_goStep_139 : decode cX0_goStep 139 = .ok (.iconst 1, 1) := by decide +kernel
theorem dX0_goStep_140 : decode cX0_goStep 140 = .ok (.goto 4, 3) := by decide +kernel
theorem dX0_goStep_143 : decode cX0_goStep 143 = .ok (.iconst 0, 1) := by decide +kernel
theorem dX0_goStep_144 : decode cX0_goStep 144 = .ok (.istore 6, 2) := by decide +kernel
theorem dX0_goStep_146 : decode cX0_goStep 146 = .ok (.aload_n 0, 1) := by decide +kernel
theorem dX0_goStep_147 : decode cX0_goStep 147 = .ok (.iload 6, 2) := by decide +kernel
theorem dX0_goStep_149 : decode cX0_goStep 149 = .ok (.ifCond .eq 8, 3) := by decide +kernel
theorem dX0_goStep_152 : decode cX0_goStep 152 = .ok (.iload 4, 2) := by decide +kernel
theorem dX0_goStep_154 : decode cX0_goStep 154 = .ok (.goto 5, 3) := by decide +kernel
theorem dX0_goStep_157 : decode cX0_goStep 157 = .ok (.iload 5, 2) := by decide +kernel
theorem dX0_goStep_159 : decode cX0_goStep 159 = .ok (.putfield 43, 3) := by decide +kernel
theorem dX0_goStep_162 : decode cX0_goStep 162 = .ok (.return_, 1) := by decide +kernel
theorem dX0_note_0 : decode cX0_note 0 = .ok (.aload_n 0, 1) := by decide +kernel
theorem dX0_note_1 : decode cX0_note 1 = .ok (.getfield 30, 3) := by decide +kernel
theorem dX0_note_4 : decode cX0_note 4 = .ok (.ifCond .lt 33, 3) := by decide +kernel
theorem dX0_note_7 : decode cX0_note 7 = .ok (.aload_n 0, 1) := by decide +kernel
theorem dX0_note_8 : decode cX0_note 8 = .ok (.getfield 30, 3) := by decide +kernel
theorem dX0_note_11 : decode cX0_note 11 = .ok (.sipush 2000, 3) := by decide +kernel
theorem dX0_note_14 : decode cX0_note 14 = .ok (.if_icmp .ge 23, 3) := by decide +kernel
theorem dX0_note_17 : decode cX0_note 17 = .ok (.aload_n 0, 1) := by decide +kernel
theorem dX0_note_18 : decode cX0_note 18 = .ok (.getfield 11, 3) := by decide +kernel
theorem dX0_note_21 : decode cX0_note 21 = .ok (.aload_n 0, 1) := by decide +kernel
theorem dX0_note_22 : decode cX0_note 22 = .ok (.getfield 30, 3) := by decide +kernel
theorem dX0_note_25 : decode cX0_note 25 = .ok (.iload_n 1, 1) := by decide +kernel
theorem dX0_note_26 : decode cX0_note 26 = .ok (.iload_n 2, 1) := by decide +kernel
theorem dX0_note_27 : decode cX0_note 27 = .ok (.bipush 6, 2) := by decide +kernel
theorem dX0_note_29 : decode cX0_note 29 = .ok (.ishl, 1) := by decide +kernel
theorem dX0_note_30 : decode cX0_note 30 = .ok (.ior, 1) := by decide +kernel
theorem dX0_note_31 : decode cX0_note 31 = .ok (.iload_n 3, 1) := by decide +kernel
theorem dX0_note_32 : decode cX0_note 32 = .ok (.bipush 12, 2) := by decide +kernel
theorem dX0_note_34 : decode cX0_note 34 = .ok (.ishl, 1) := by decide +kernel
theorem dX0_note_35 : decode cX0_note 35 = .ok (.ior, 1) := by decide +kernel
theorem dX0_note_36 : decode cX0_note 36 = .ok (.iastore, 1) := by decide +kernel
theorem dX0_note_37 : decode cX0_note 37 = .ok (.return_, 1) := by decide +kernel
theorem dX0_extraTime_0 : decode cX0_extraTime 0 = .ok (.iload_n 1, 1) := by decide +kernel
theorem dX0_extraTime_1 : decode cX0_extraTime 1 = .ok (.iconst 4, 1) := by decide +kernel
theorem dX0_extraTime_2 : decode cX0_extraTime 2 = .ok (.if_icmp .ne 25, 3) := by decide +kernel
theorem dX0_extraTime_5 : decode cX0_extraTime 5 = .ok (.iload_n 2, 1) := by decide +kernel
theorem dX0_extraTime_6 : decode cX0_extraTime 6 = .ok (.ifCond .lt 21, 3) := by decide +kernel
theorem dX0_extraTime_9 : decode cX0_extraTime 9 = .ok (.iload_n 2, 1) := by decide +kernel
theorem dX0_extraTime_10 : decode cX0_extraTime 10 = .ok (.bipush 40, 2) := by decide +kernel
theorem dX0_extraTime_12 : decode cX0_extraTime 12 = .ok (.if_icmp .ge 15, 3) := by decide +kernel
theorem dX0_extraTime_15 : decode cX0_extraTime 15 = .ok (.iconst 2, 1) := by decide +kernel
theorem dX0_extraTime_16 : decode cX0_extraTime 16 = .ok (.aload_n 0, 1) := by decide +kernel
theorem dX0_extraTime_17 : decode cX0_extraTime 17 = .ok (.getfield 15, 3) := by decide +kernel
theorem dX0_extraTime_20 : decode cX0_extraTime 20 = .ok (.iload_n 2, 1) := by decide +kernel
theorem dX0_extraTime_21 : decode cX0_extraTime 21 = .ok (.iaload, 1) := by decide +kernel
theorem dX0_extraTime_22 : decode cX0_extraTime 22 = .ok (.invokestatic 85, 3) := by decide +kernel
theorem dX0_extraTime_25 : decode cX0_extraTime 25 = .ok (.iadd, 1) := by decide +kernel
theorem dX0_extraTime_26 : decode cX0_extraTime 26 = .ok (.ireturn, 1) := by decide +kernel
theorem dX0_extraTime_27 : decode cX0_extraTime 27 = .ok (.iload_n 1, 1) := by decide +kernel
theorem dX0_extraTime_28 : decode cX0_extraTime 28 = .ok (.bipush 8, 2) := by decide +kernel
theorem dX0_extraTime_30 : decode cX0_extraTime 30 = .ok (.if_icmp .ne 7, 3) := by decide +kernel
theorem dX0_extraTime_33 : decode cX0_extraTime 33 = .ok (.iconst 3, 1) := by decide +kernel
theorem dX0_extraTime_34 : decode cX0_extraTime 34 = .ok (.goto 4, 3) := by decide +kernel
theorem dX0_extraTime_37 : decode cX0_extraTime 37 = .ok (.iconst 0, 1) := by decide +kernel
theorem dX0_extraTime_38 : decode cX0_extraTime 38 = .ok (.ireturn, 1) := by decide +kernel
theorem dX0_work_0 : decode cX0_work 0 = .ok (.iload_n 2, 1) := by decide +kernel
theorem dX0_work_1 : decode cX0_work 1 = .ok (.ifCond .lt 9, 3) := by decide +kernel
theorem dX0_work_4 : decode cX0_work 4 = .ok (.iload_n 2, 1) := by decide +kernel
theorem dX0_work_5 : decode cX0_work 5 = .ok (.bipush 40, 2) := by decide +kernel
theorem dX0_work_7 : decode cX0_work 7 = .ok (.if_icmp .lt 4, 3) := by decide +kernel
theorem dX0_work_10 : decode cX0_work 10 = .ok (.return_, 1) := by decide +kernel
theorem dX0_work_11 : decode cX0_work 11 = .ok (.iload_n 1, 1) := by decide +kernel
theorem dX0_work_12 : decode cX0_work 12 = .ok (.tableswitch 152 1 9 #[52, 65, 83, 101, 119, 152, 152, 132, 139], 52) := by decide +kernel
theorem dX0_work_64 : decode cX0_work 64 = .ok (.aload_n 0, 1) := by decide +kernel
theorem dX0_work_65 : decode cX0_work 65 = .ok (.aload_n 0, 1) := by decide +kernel
theorem dX0_work_66 : decode cX0_work 66 = .ok (.getfield 15, 3) := by decide +kernel
theorem dX0_work_69 : decode cX0_work 69 = .ok (.iload_n 2, 1) := by decide +kernel
theorem dX0_work_70 : decode cX0_work 70 = .ok (.iaload, 1) := by decide +kernel
theorem dX0_work_71 : decode cX0_work 71 = .ok (.putfield 37, 3) := by decide +kernel
theorem dX0_work_74 : decode cX0_work 74 = .ok (.goto 90, 3) := by decide +kernel
theorem dX0_work_77 : decode cX0_work 77 = .ok (.aload_n 0, 1) := by decide +kernel
theorem dX0_work_78 : decode cX0_work 78 = .ok (.dup, 1) := by decide +kernel
theorem dX0_work_79 : decode cX0_work 79 = .ok (.getfield 37, 3) := by decide +kernel
theorem dX0_work_82 : decode cX0_work 82 = .ok (.aload_n 0, 1) := by decide +kernel
theorem dX0_work_83 : decode cX0_work 83 = .ok (.getfield 15, 3) := by decide +kernel
theorem dX0_work_86 : decode cX0_work 86 = .ok (.iload_n 2, 1) := by decide +kernel
theorem dX0_work_87 : decode cX0_work 87 = .ok (.iaload, 1) := by decide +kernel
theorem dX0_work_88 : decode cX0_work 88 = .ok (.iadd, 1) := by decide +kernel
theorem dX0_work_89 : decode cX0_work 89 = .ok (.putfield 37, 3) := by decide +kernel
theorem dX0_work_92 : decode cX0_work 92 = .ok (.goto 72, 3) := by decide +kernel
theorem dX0_work_95 : decode cX0_work 95 = .ok (.aload_n 0, 1) := by decide +kernel
theorem dX0_work_96 : decode cX0_work 96 = .ok (.dup, 1) := by decide +kernel
theorem dX0_work_97 : decode cX0_work 97 = .ok (.getfield 37, 3) := by decide +kernel
theorem dX0_work_100 : decode cX0_work 100 = .ok (.aload_n 0, 1) := by decide +kernel
theorem dX0_work_101 : decode cX0_work 101 = .ok (.getfield 15, 3) := by decide +kernel
theorem dX0_work_104 : decode cX0_work 104 = .ok (.iload_n 2, 1) := by decide +kernel
theorem dX0_work_105 : decode cX0_work 105 = .ok (.iaload, 1) := by decide +kernel
theorem dX0_work_106 : decode cX0_work 106 = .ok (.isub, 1) := by decide +kernel
theorem dX0_work_107 : decode cX0_work 107 = .ok (.putfield 37, 3) := by decide +kernel
theorem dX0_work_110 : decode cX0_work 110 = .ok (.goto 54, 3) := by decide +kernel
theorem dX0_work_113 : decode cX0_work 113 = .ok (.aload_n 0, 1) := by decide +kernel
theorem dX0_work_114 : decode cX0_work 114 = .ok (.dup, 1) := by decide +kernel
theorem dX0_work_115 : decode cX0_work 115 = .ok (.getfield 37, 3) := by decide +kernel
theorem dX0_work_118 : decode cX0_work 118 = .ok (.aload_n 0, 1) := by decide +kernel
theorem dX0_work_119 : decode cX0_work 119 = .ok (.getfield 15, 3) := by decide +kernel
theorem dX0_work_122 : decode cX0_work 122 = .ok (.iload_n 2, 1) := by decide +kernel
theorem dX0_work_123 : decode cX0_work 123 = .ok (.iaload, 1) := by decide +kernel
theorem dX0_work_124 : decode cX0_work 124 = .ok (.imul, 1) := by decide +kernel
theorem dX0_work_125 : decode cX0_work 125 = .ok (.putfield 37, 3) := by decide +kernel
theorem dX0_work_128 : decode cX0_work 128 = .ok (.goto 36, 3) := by decide +kernel
theorem dX0_work_131 : decode cX0_work 131 = .ok (.aload_n 0, 1) := by decide +kernel
theorem dX0_work_132 : decode cX0_work 132 = .ok (.getfield 15, 3) := by decide +kernel
theorem dX0_work_135 : decode cX0_work 135 = .ok (.iload_n 2, 1) := by decide +kernel
theorem dX0_work_136 : decode cX0_work 136 = .ok (.aload_n 0, 1) := by decide +kernel
theorem dX0_work_137 : decode cX0_work 137 = .ok (.getfield 37, 3) := by decide +kernel
theorem dX0_work_140 : decode cX0_work 140 = .ok (.iastore, 1) := by decide +kernel
theorem dX0_work_141 : decode cX0_work 141 = .ok (.goto 23, 3) := by decide +kernel
theorem dX0_work_144 : decode cX0_work 144 = .ok (.aload_n 0, 1) := by decide +kernel
theorem dX0_work_145 : decode cX0_work 145 = .ok (.invokevirtual 90, 3) := by decide +kernel
theorem dX0_work_148 : decode cX0_work 148 = .ok (.goto 16, 3) := by decide +kernel
theorem dX0_work_151 : decode cX0_work 151 = .ok (.aload_n 0, 1) := by decide +kernel
theorem dX0_work_152 : decode cX0_work 152 = .ok (.dup, 1) := by decide +kernel
theorem dX0_work_153 : decode cX0_work 153 = .ok (.getfield 37, 3) := by decide +kernel
theorem dX0_work_156 : decode cX0_work 156 = .ok (.iconst 2, 1) := by decide +kernel
theorem dX0_work_157 : decode cX0_work 157 = .ok (.idiv, 1) := by decide +kernel
theorem dX0_work_158 : decode cX0_work 158 = .ok (.putfield 37, 3) := by decide +kernel
theorem dX0_work_161 : decode cX0_work 161 = .ok (.goto 3, 3) := by decide +kernel
theorem dX0_work_164 : decode cX0_work 164 = .ok (.return_, 1) := by decide +kernel
theorem dX0_print_0 : decode cX0_print 0 = .ok (.aload_n 0, 1) := by decide +kernel
theorem dX0_print_1 : decode cX0_print 1 = .ok (.getfield 46, 3) := by decide +kernel
theorem dX0_print_4 : decode cX0_print 4 = .ok (.ifCond .lt 25, 3) := by decide +kernel
theorem dX0_print_7 : decode cX0_print 7 = .ok (.aload_n 0, 1) := by decide +kernel
theorem dX0_print_8 : decode cX0_print 8 = .ok (.getfield 46, 3) := by decide +kernel
theorem dX0_print_11 : decode cX0_print 11 = .ok (.bipush 100, 2) := by decide +kernel
theorem dX0_print_13 : decode cX0_print 13 = .ok (.if_icmp .ge 16, 3) := by decide +kernel
theorem dX0_print_16 : decode cX0_print 16 = .ok (.aload_n 0, 1) := by decide +kernel
theorem dX0_print_17 : decode cX0_print 17 = .ok (.getfield 18, 3) := by decide +kernel
theorem dX0_print_20 : decode cX0_print 20 = .ok (.aload_n 0, 1) := by decide +kernel
theorem dX0_print_21 : decode cX0_print 21 = .ok (.getfield 46, 3) := by decide +kernel
theorem dX0_print_24 : decode cX0_print 24 = .ok (.aload_n 0, 1) := by decide +kernel
theorem dX0_print_25 : decode cX0_print 25 = .ok (.getfield 37, 3) := by decide +kernel
theorem dX0_print_28 : decode cX0_print 28 = .ok (.iastore, 1) := by decide +kernel
theorem dX0_print_29 : decode cX0_print 29 = .ok (.aload_n 0, 1) := by decide +kernel
theorem dX0_print_30 : decode cX0_print 30 = .ok (.dup, 1) := by decide +kernel
theorem dX0_print_31 : decode cX0_print 31 = .ok (.getfield 46, 3) := by decide +kernel
theorem dX0_print_34 : decode cX0_print 34 = .ok (.iconst 1, 1) := by decide +kernel
theorem dX0_print_35 : decode cX0_print 35 = .ok (.iadd, 1) := by decide +kernel
theorem dX0_print_36 : decode cX0_print 36 = .ok (.putfield 46, 3) := by decide +kernel
theorem dX0_print_39 : decode cX0_print 39 = .ok (.return_, 1) := by decide +kernel
theorem dX0_nameIn_0 : decode cX0_nameIn 0 = .ok (.iload_n 0, 1) := by decide +kernel
theorem dX0_nameIn_1 : decode cX0_nameIn 1 = .ok (.bipush 63, 2) := by decide +kernel
theorem dX0_nameIn_3 : decode cX0_nameIn 3 = .ok (.iand, 1) := by decide +kernel
theorem dX0_nameIn_4 : decode cX0_nameIn 4 = .ok (.ireturn, 1) := by decide +kernel
theorem dX0_wordIn_0 : decode cX0_wordIn 0 = .ok (.iload_n 0, 1) := by decide +kernel
theorem dX0_wordIn_1 : decode cX0_wordIn 1 = .ok (.bipush 6, 2) := by decide +kernel
theorem dX0_wordIn_3 : decode cX0_wordIn 3 = .ok (.ishr, 1) := by decide +kernel
theorem dX0_wordIn_4 : decode cX0_wordIn 4 = .ok (.bipush 63, 2) := by decide +kernel
theorem dX0_wordIn_6 : decode cX0_wordIn 6 = .ok (.iand, 1) := by decide +kernel
theorem dX0_wordIn_7 : decode cX0_wordIn 7 = .ok (.ireturn, 1) := by decide +kernel
theorem dX0_extraIn_0 : decode cX0_extraIn 0 = .ok (.iload_n 0, 1) := by decide +kernel
theorem dX0_extraIn_1 : decode cX0_extraIn 1 = .ok (.bipush 12, 2) := by decide +kernel
theorem dX0_extraIn_3 : decode cX0_extraIn 3 = .ok (.ishr, 1) := by decide +kernel
theorem dX0_extraIn_4 : decode cX0_extraIn 4 = .ok (.ireturn, 1) := by decide +kernel
theorem dX1_init_0 : decode cX1_init 0 = .ok (.aload_n 0, 1) := by decide +kernel
theorem dX1_init_1 : decode cX1_init 1 = .ok (.invokespecial 3, 3) := by decide +kernel
theorem dX1_init_4 : decode cX1_init 4 = .ok (.aload_n 0, 1) := by decide +kernel
theorem dX1_init_5 : decode cX1_init 5 = .ok (.iconst 4, 1) := by decide +kernel
theorem dX1_init_6 : decode cX1_init 6 = .ok (.newarray .int, 2) := by decide +kernel
theorem dX1_init_8 : decode cX1_init 8 = .ok (.putfield 9, 3) := by decide +kernel
theorem dX1_init_11 : decode cX1_init 11 = .ok (.aload_n 0, 1) := by decide +kernel
theorem dX1_init_12 : decode cX1_init 12 = .ok (.iconst 4, 1) := by decide +kernel
theorem dX1_init_13 : decode cX1_init 13 = .ok (.newarray .int, 2) := by decide +kernel
theorem dX1_init_15 : decode cX1_init 15 = .ok (.putfield 15, 3) := by decide +kernel
theorem dX1_init_18 : decode cX1_init 18 = .ok (.aload_n 0, 1) := by decide +kernel
theorem dX1_init_19 : decode cX1_init 19 = .ok (.bipush 16, 2) := by decide +kernel
theorem dX1_init_21 : decode cX1_init 21 = .ok (.putfield 18, 3) := by decide +kernel
theorem dX1_init_24 : decode cX1_init 24 = .ok (.aload_n 0, 1) := by decide +kernel
theorem dX1_init_25 : decode cX1_init 25 = .ok (.iconst 2, 1) := by decide +kernel
theorem dX1_init_26 : decode cX1_init 26 = .ok (.putfield 22, 3) := by decide +kernel
theorem dX1_init_29 : decode cX1_init 29 = .ok (.aload_n 0, 1) := by decide +kernel
theorem dX1_init_30 : decode cX1_init 30 = .ok (.getfield 9, 3) := by decide +kernel
theorem dX1_init_33 : decode cX1_init 33 = .ok (.iconst 0, 1) := by decide +kernel
theorem dX1_init_34 : decode cX1_init 34 = .ok (.bipush 16, 2) := by decide +kernel
theorem dX1_init_36 : decode cX1_init 36 = .ok (.iastore, 1) := by decide +kernel
theorem dX1_init_37 : decode cX1_init 37 = .ok (.aload_n 0, 1) := by decide +kernel
theorem dX1_init_38 : decode cX1_init 38 = .ok (.getfield 9, 3) := by decide +kernel
theorem dX1_init_41 : decode cX1_init 41 = .ok (.iconst 1, 1) := by decide +kernel
theorem dX1_init_42 : decode cX1_init 42 = .ok (.bipush 16, 2) := by decide +kernel
theorem dX1_init_44 : decode cX1_init 44 = .ok (.iastore, 1) := by decide +kernel
theorem dX1_init_45 : decode cX1_init 45 = .ok (.aload_n 0, 1) := by decide +kernel
theorem dX1_init_46 : decode cX1_init 46 = .ok (.getfield 15, 3) := by decide +kernel
theorem dX1_init_49 : decode cX1_init 49 = .ok (.iconst 0, 1) := by decide +kernel
theorem dX1_init_50 : decode cX1_init 50 = .ok (.bipush 16, 2) := by decide +kernel
theorem dX1_init_52 : decode cX1_init 52 = .ok (.iastore, 1) := by decide +kernel
theorem dX1_init_53 : decode cX1_init 53 = .ok (.aload_n 0, 1) := by decide +kernel
theorem dX1_init_54 : decode cX1_init 54 = .ok (.getfield 15, 3) := by decide +kernel
theorem dX1_init_57 : decode cX1_init 57 = .ok (.iconst 1, 1) := by decide +kernel
theorem dX1_init_58 : decode cX1_init 58 = .ok (.bipush 16, 2) := by decide +kernel
theorem dX1_init_60 : decode cX1_init 60 = .ok (.iastore, 1) := by decide +kernel
theorem dX1_init_61 : decode cX1_init 61 = .ok (.return_, 1) := by decide +kernel
theorem dX1_copyFrom_0 : decode cX1_copyFrom 0 = .ok (.aload_n 0, 1) := by decide +kernel
theorem dX1_copyFrom_1 : decode cX1_copyFrom 1 = .ok (.aload_n 1, 1) := by decide +kernel
theorem dX1_copyFrom_2 : decode cX1_copyFrom 2 = .ok (.getfield 18, 3) := by decide +kernel
theorem dX1_copyFrom_5 : decode cX1_copyFrom 5 = .ok (.putfield 18, 3) := by decide +kernel
theorem dX1_copyFrom_8 : decode cX1_copyFrom 8 = .ok (.aload_n 0, 1) := by decide +kernel
theorem dX1_copyFrom_9 : decode cX1_copyFrom 9 = .ok (.aload_n 1, 1) := by decide +kernel
theorem dX1_copyFrom_10 : decode cX1_copyFrom 10 = .ok (.getfield 22, 3) := by decide +kernel
theorem dX1_copyFrom_13 : decode cX1_copyFrom 13 = .ok (.putfield 22, 3) := by decide +kernel
theorem dX1_copyFrom_16 : decode cX1_copyFrom 16 = .ok (.iconst 0, 1) := by decide +kernel
theorem dX1_copyFrom_17 : decode cX1_copyFrom 17 = .ok (.istore_n 2, 1) := by decide +kernel
theorem dX1_copyFrom_18 : decode cX1_copyFrom 18 = .ok (.iload_n 2, 1) := by decide +kernel
theorem dX1_copyFrom_19 : decode cX1_copyFrom 19 = .ok (.iconst 4, 1) := by decide +kernel
theorem dX1_copyFrom_20 : decode cX1_copyFrom 20 = .ok (.if_icmp .ge 33, 3) := by decide +kernel
theorem dX1_copyFrom_23 : decode cX1_copyFrom 23 = .ok (.aload_n 0, 1) := by decide +kernel
theorem dX1_copyFrom_24 : decode cX1_copyFrom 24 = .ok (.getfield 9, 3) := by decide +kernel
theorem dX1_copyFrom_27 : decode cX1_copyFrom 27 = .ok (.iload_n 2, 1) := by decide +kernel
theorem dX1_copyFrom_28 : decode cX1_copyFrom 28 = .ok (.aload_n 1, 1) := by decide +kernel
theorem dX1_copyFrom_29 : decode cX1_copyFrom 29 = .ok (.getfield 9, 3) := by decide +kernel
theorem dX1_copyFrom_32 : decode cX1_copyFrom 32 = .ok (.iload_n 2, 1) := by decide +kernel
theorem dX1_copyFrom_33 : decode cX1_copyFrom 33 = .ok (.iaload, 1) := by decide +kernel
theorem dX1_copyFrom_34 : decode cX1_copyFrom 34 = .ok (.iastore, 1) := by decide +kernel
theorem dX1_copyFrom_35 : decode cX1_copyFrom 35 = .ok (.aload_n 0, 1) := by decide +kernel
theorem dX1_copyFrom_36 : decode cX1_copyFrom 36 = .ok (.getfield 15, 3) := by decide +kernel
theorem dX1_copyFrom_39 : decode cX1_copyFrom 39 = .ok (.iload_n 2, 1) := by decide +kernel
theorem dX1_copyFrom_40 : decode cX1_copyFrom 40 = .ok (.aload_n 1, 1) := by decide +kernel
theorem dX1_copyFrom_41 : decode cX1_copyFrom 41 = .ok (.getfield 15, 3) := by decide +kernel
theorem dX1_copyFrom_44 : decode cX1_copyFrom 44 = .ok (.iload_n 2, 1) := by decide +kernel
theorem dX1_copyFrom_45 : decode cX1_copyFrom 45 = .ok (.iaload, 1) := by decide +kernel
theorem dX1_copyFrom_46 : decode cX1_copyFrom 46 = .ok (.iastore, 1) := by decide +kernel
theorem dX1_copyFrom_47 : decode cX1_copyFrom 47 = .ok (.iinc 2 1, 3) := by decide +kernel
theorem dX1_copyFrom_50 : decode cX1_copyFrom 50 = .ok (.goto (-32), 3) := by decide +kernel
theorem dX1_copyFrom_53 : decode cX1_copyFrom 53 = .ok (.return_, 1) := by decide +kernel
theorem dX1_addTrack_0 : decode cX1_addTrack 0 = .ok (.aload_n 0, 1) := by decide +kernel
theorem dX1_addTrack_1 : decode cX1_addTrack 1 = .ok (.getfield 22, 3) := by decide +kernel
theorem dX1_addTrack_4 : decode cX1_addTrack 4 = .ok (.ifCond .lt 41, 3) := by decide +kernel
theorem dX1_addTrack_7 : decode cX1_addTrack 7 = .ok (.aload_n 0, 1) := by decide +kernel
theorem dX1_addTrack_8 : decode cX1_addTrack 8 = .ok (.getfield 22, 3) := by decide +kernel
theorem dX1_addTrack_11 : decode cX1_addTrack 11 = .ok (.iconst 4, 1) := by decide +kernel
theorem dX1_addTrack_12 : decode cX1_addTrack 12 = .ok (.if_icmp .ge 33, 3) := by decide +kernel
theorem dX1_addTrack_15 : decode cX1_addTrack 15 = .ok (.aload_n 0, 1) := by decide +kernel
theorem dX1_addTrack_16 : decode cX1_addTrack 16 = .ok (.getfield 9, 3) := by decide +kernel
theorem dX1_addTrack_19 : decode cX1_addTrack 19 = .ok (.aload_n 0, 1) := by decide +kernel
theorem dX1_addTrack_20 : decode cX1_addTrack 20 = .ok (.getfield 22, 3) := by decide +kernel
theorem dX1_addTrack_23 : decode cX1_addTrack 23 = .ok (.iload_n 1, 1) := by decide +kernel
theorem dX1_addTrack_24 : decode cX1_addTrack 24 = .ok (.iastore, 1) := by decide +kernel
theorem dX1_addTrack_25 : decode cX1_addTrack 25 = .ok (.aload_n 0, 1) := by decide +kernel
theorem dX1_addTrack_26 : decode cX1_addTrack 26 = .ok (.getfield 15, 3) := by decide +kernel
theorem dX1_addTrack_29 : decode cX1_addTrack 29 = .ok (.aload_n 0, 1) := by decide +kernel
theorem dX1_addTrack_30 : decode cX1_addTrack 30 = .ok (.getfield 22, 3) := by decide +kernel
theorem dX1_addTrack_33 : decode cX1_addTrack 33 = .ok (.iload_n 2, 1) := by decide +kernel
theorem dX1_addTrack_34 : decode cX1_addTrack 34 = .ok (.iastore, 1) := by decide +kernel
theorem dX1_addTrack_35 : decode cX1_addTrack 35 = .ok (.aload_n 0, 1) := by decide +kernel
theorem dX1_addTrack_36 : decode cX1_addTrack 36 = .ok (.dup, 1) := by decide +kernel
theorem dX1_addTrack_37 : decode cX1_addTrack 37 = .ok (.getfield 22, 3) := by decide +kernel
theorem dX1_addTrack_40 : decode cX1_addTrack 40 = .ok (.iconst 1, 1) := by decide +kernel
theorem dX1_addTrack_41 : decode cX1_addTrack 41 = .ok (.iadd, 1) := by decide +kernel
theorem dX1_addTrack_42 : decode cX1_addTrack 42 = .ok (.putfield 22, 3) := by decide +kernel
theorem dX1_addTrack_45 : decode cX1_addTrack 45 = .ok (.return_, 1) := by decide +kernel
theorem dX1_countSpots_0 : decode cX1_countSpots 0 = .ok (.iconst 0, 1) := by decide +kernel
theorem dX1_countSpots_1 : decode cX1_countSpots 1 = .ok (.istore_n 1, 1) := by decide +kernel
theorem dX1_countSpots_2 : decode cX1_countSpots 2 = .ok (.iconst 0, 1) := by decide +kernel
theorem dX1_countSpots_3 : decode cX1_countSpots 3 = .ok (.istore_n 2, 1) := by decide +kernel
theorem dX1_countSpots_4 : decode cX1_countSpots 4 = .ok (.iload_n 2, 1) := by decide +kernel
theorem dX1_countSpots_5 : decode cX1_countSpots 5 = .ok (.aload_n 0, 1) := by decide +kernel
theorem dX1_countSpots_6 : decode cX1_countSpots 6 = .ok (.getfield 22, 3) := by decide +kernel
theorem dX1_countSpots_9 : decode cX1_countSpots 9 = .ok (.if_icmp .ge 23, 3) := by decide +kernel
theorem dX1_countSpots_12 : decode cX1_countSpots 12 = .ok (.iload_n 2, 1) := by decide +kernel
theorem dX1_countSpots_13 : decode cX1_countSpots 13 = .ok (.iconst 4, 1) := by decide +kernel
theorem dX1_countSpots_14 : decode cX1_countSpots 14 = .ok (.if_icmp .ge 18, 3) := by decide +kernel
theorem dX1_countSpots_17 : decode cX1_countSpots 17 = .ok (.iload_n 1, 1) := by decide +kernel
theorem dX1_countSpots_18 : decode cX1_countSpots 18 = .ok (.aload_n 0, 1) := by decide +kernel
theorem dX1_countSpots_19 : decode cX1_countSpots 19 = .ok (.getfield 15, 3) := by decide +kernel
theorem dX1_countSpots_22 : decode cX1_countSpots 22 = .ok (.iload_n 2, 1) := by decide +kernel
theorem dX1_countSpots_23 : decode cX1_countSpots 23 = .ok (.iaload, 1) := by decide +kernel
theorem dX1_countSpots_24 : decode cX1_countSpots 24 = .ok (.iadd, 1) := by decide +kernel
theorem dX1_countSpots_25 : decode cX1_countSpots 25 = .ok (.istore_n 1, 1) := by decide +kernel
theorem dX1_countSpots_26 : decode cX1_countSpots 26 = .ok (.iinc 2 1, 3) := by decide +kernel
theorem dX1_countSpots_29 : decode cX1_countSpots 29 = .ok (.goto (-25), 3) := by decide +kernel
theorem dX1_countSpots_32 : decode cX1_countSpots 32 = .ok (.iload_n 1, 1) := by decide +kernel
theorem dX1_countSpots_33 : decode cX1_countSpots 33 = .ok (.ireturn, 1) := by decide +kernel
theorem dX1_spotsEnd_0 : decode cX1_spotsEnd 0 = .ok (.sipush 128, 3) := by decide +kernel
theorem dX1_spotsEnd_3 : decode cX1_spotsEnd 3 = .ok (.aload_n 0, 1) := by decide +kernel
theorem dX1_spotsEnd_4 : decode cX1_spotsEnd 4 = .ok (.getfield 18, 3) := by decide +kernel
theorem dX1_spotsEnd_7 : decode cX1_spotsEnd 7 = .ok (.aload_n 0, 1) := by decide +kernel
theorem dX1_spotsEnd_8 : decode cX1_spotsEnd 8 = .ok (.getfield 22, 3) := by decide +kernel
theorem dX1_spotsEnd_11 : decode cX1_spotsEnd 11 = .ok (.imul, 1) := by decide +kernel
theorem dX1_spotsEnd_12 : decode cX1_spotsEnd 12 = .ok (.invokestatic 25, 3) := by decide +kernel
theorem dX1_spotsEnd_15 : decode cX1_spotsEnd 15 = .ok (.ireturn, 1) := by decide +kernel
theorem dX1_hasSpot_0 : decode cX1_hasSpot 0 = .ok (.iload_n 1, 1) := by decide +kernel
theorem dX1_hasSpot_1 : decode cX1_hasSpot 1 = .ok (.ifCond .lt 33, 3) := by decide +kernel
theorem dX1_hasSpot_4 : decode cX1_hasSpot 4 = .ok (.iload_n 1, 1) := by decide +kernel
theorem dX1_hasSpot_5 : decode cX1_hasSpot 5 = .ok (.aload_n 0, 1) := by decide +kernel
theorem dX1_hasSpot_6 : decode cX1_hasSpot 6 = .ok (.invokevirtual 31, 3) := by decide +kernel
theorem dX1_hasSpot_9 : decode cX1_hasSpot 9 = .ok (.if_icmp .ge 25, 3) := by decide +kernel
theorem dX1_hasSpot_12 : decode cX1_hasSpot 12 = .ok (.aload_n 0, 1) := by decide +kernel
theorem dX1_hasSpot_13 : decode cX1_hasSpot 13 = .ok (.iload_n 1, 1) := by decide +kernel
theorem dX1_hasSpot_14 : decode cX1_hasSpot 14 = .ok (.invokevirtual 35, 3) := by decide +kernel
theorem dX1_hasSpot_17 : decode cX1_hasSpot 17 = .ok (.aload_n 0, 1) := by decide +kernel
theorem dX1_hasSpot_18 : decode cX1_hasSpot 18 = .ok (.getfield 15, 3) := by decide +kernel
theorem dX1_hasSpot_21 : decode cX1_hasSpot 21 = .ok (.aload_n 0, 1) := by decide +kernel
theorem dX1_hasSpot_22 : decode cX1_hasSpot 22 = .ok (.iload_n 1, 1) := by decide +kernel
theorem dX1_hasSpot_23 : decode cX1_hasSpot 23 = .ok (.invokevirtual 39, 3) := by decide +kernel
theorem dX1_hasSpot_26 : decode cX1_hasSpot 26 = .ok (.iaload, 1) := by decide +kernel
theorem dX1_hasSpot_27 : decode cX1_hasSpot 27 = .ok (.if_icmp .ge 7, 3) := by decide +kernel
theorem dX1_hasSpot_30 : decode cX1_hasSpot 30 = .ok (.iconst 1, 1) := by decide +kernel
theorem dX1_hasSpot_31 : decode cX1_hasSpot 31 = .ok (.goto 4, 3) := by decide +kernel
theorem dX1_hasSpot_34 : decode cX1_hasSpot 34 = .ok (.iconst 0, 1) := by decide +kernel
theorem dX1_hasSpot_35 : decode cX1_hasSpot 35 = .ok (.ireturn, 1) := by decide +kernel
theorem dX1_roundOf_0 : decode cX1_roundOf 0 = .ok (.aload_n 0, 1) := by decide +kernel
theorem dX1_roundOf_1 : decode cX1_roundOf 1 = .ok (.getfield 9, 3) := by decide +kernel
theorem dX1_roundOf_4 : decode cX1_roundOf 4 = .ok (.aload_n 0, 1) := by decide +kernel
theorem dX1_roundOf_5 : decode cX1_roundOf 5 = .ok (.iload_n 1, 1) := by decide +kernel
theorem dX1_roundOf_6 : decode cX1_roundOf 6 = .ok (.invokevirtual 39, 3) := by decide +kernel
theorem dX1_roundOf_9 : decode cX1_roundOf 9 = .ok (.iaload, 1) := by decide +kernel
theorem dX1_roundOf_10 : decode cX1_roundOf 10 = .ok (.ireturn, 1) := by decide +kernel
theorem dX1_trackOf_0 : decode cX1_trackOf 0 = .ok (.aload_n 0, 1) := by decide +kernel
theorem dX1_trackOf_1 : decode cX1_trackOf 1 = .ok (.getfield 18, 3) := by decide +kernel
theorem dX1_trackOf_4 : decode cX1_trackOf 4 = .ok (.iconst 1, 1) := by decide +kernel
theorem dX1_trackOf_5 : decode cX1_trackOf 5 = .ok (.if_icmp .ge 7, 3) := by decide +kernel
theorem dX1_trackOf_8 : decode cX1_trackOf 8 = .ok (.iconst 0, 1) := by decide +kernel
theorem dX1_trackOf_9 : decode cX1_trackOf 9 = .ok (.goto 9, 3) := by decide +kernel
theorem dX1_trackOf_12 : decode cX1_trackOf 12 = .ok (.iload_n 1, 1) := by decide +kernel
theorem dX1_trackOf_13 : decode cX1_trackOf 13 = .ok (.aload_n 0, 1) := by decide +kernel
theorem dX1_trackOf_14 : decode cX1_trackOf 14 = .ok (.getfield 18, 3) := by decide +kernel
theorem dX1_trackOf_17 : decode cX1_trackOf 17 = .ok (.idiv, 1) := by decide +kernel
theorem dX1_trackOf_18 : decode cX1_trackOf 18 = .ok (.istore_n 2, 1) := by decide +kernel
theorem dX1_trackOf_19 : decode cX1_trackOf 19 = .ok (.iload_n 2, 1) := by decide +kernel
theorem dX1_trackOf_20 : decode cX1_trackOf 20 = .ok (.ifCond .lt 8, 3) := by decide +kernel
theorem dX1_trackOf_23 : decode cX1_trackOf 23 = .ok (.iload_n 2, 1) := by decide +kernel
theorem dX1_trackOf_24 : decode cX1_trackOf 24 = .ok (.iconst 4, 1) := by decide +kernel
theorem dX1_trackOf_25 : decode cX1_trackOf 25 = .ok (.if_icmp .lt 7, 3) := by decide +kernel
theorem dX1_trackOf_28 : decode cX1_trackOf 28 = .ok (.iconst 0, 1) := by decide +kernel
theorem dX1_trackOf_29 : decode cX1_trackOf 29 = .ok (.goto 4, 3) := by decide +kernel
theorem dX1_trackOf_32 : decode cX1_trackOf 32 = .ok (.iload_n 2, 1) := by decide +kernel
theorem dX1_trackOf_33 : decode cX1_trackOf 33 = .ok (.ireturn, 1) := by decide +kernel
theorem dX1_placeOf_0 : decode cX1_placeOf 0 = .ok (.aload_n 0, 1) := by decide +kernel
theorem dX1_placeOf_1 : decode cX1_placeOf 1 = .ok (.getfield 18, 3) := by decide +kernel
theorem dX1_placeOf_4 : decode cX1_placeOf 4 = .ok (.iconst 1, 1) := by decide +kernel
theorem dX1_placeOf_5 : decode cX1_placeOf 5 = .ok (.if_icmp .ge 7, 3) := by decide +kernel
theorem dX1_placeOf_8 : decode cX1_placeOf 8 = .ok (.iconst 0, 1) := by decide +kernel
theorem dX1_placeOf_9 : decode cX1_placeOf 9 = .ok (.goto 9, 3) := by decide +kernel
theorem dX1_placeOf_12 : decode cX1_placeOf 12 = .ok (.iload_n 1, 1) := by decide +kernel
theorem dX1_placeOf_13 : decode cX1_placeOf 13 = .ok (.aload_n 0, 1) := by decide +kernel
theorem dX1_placeOf_14 : decode cX1_placeOf 14 = .ok (.getfield 18, 3) := by decide +kernel
theorem dX1_placeOf_17 : decode cX1_placeOf 17 = .ok (.irem, 1) := by decide +kernel
theorem dX1_placeOf_18 : decode cX1_placeOf 18 = .ok (.ireturn, 1) := by decide +kernel
theorem dX1_tableStep_0 : decode cX1_tableStep 0 = .ok (.iconst (-1), 1) := by decide +kernel
theorem dX1_tableStep_1 : decode cX1_tableStep 1 = .ok (.istore_n 3, 1) := by decide +kernel
theorem dX1_tableStep_2 : decode cX1_tableStep 2 = .ok (.bipush 32, 2) := by decide +kernel
theorem dX1_tableStep_4 : decode cX1_tableStep 4 = .ok (.istore 4, 2) := by decide +kernel
theorem dX1_tableStep_6 : decode cX1_tableStep 6 = .ok (.iconst 1, 1) := by decide +kernel
theorem dX1_tableStep_7 : decode cX1_tableStep 7 = .ok (.istore 5, 2) := by decide +kernel
theorem dX1_tableStep_9 : decode cX1_tableStep 9 = .ok (.iload 5, 2) := by decide +kernel
theorem dX1_tableStep_11 : decode cX1_tableStep 11 = .ok (.aload_n 0, 1) := by decide +kernel
theorem dX1_tableStep_12 : decode cX1_tableStep 12 = .ok (.getfield 18, 3) := by decide +kernel
theorem dX1_tableStep_15 : decode cX1_tableStep 15 = .ok (.if_icmp .ge 46, 3) := by decide +kernel
theorem dX1_tableStep_18 : decode cX1_tableStep 18 = .ok (.iload 5, 2) := by decide +kernel
theorem dX1_tableStep_20 : decode cX1_tableStep 20 = .ok (.iload_n 2, 1) := by decide +kernel
theorem dX1_tableStep_21 : decode cX1_tableStep 21 = .ok (.isub, 1) := by decide +kernel
theorem dX1_tableStep_22 : decode cX1_tableStep 22 = .ok (.aload_n 0, 1) := by decide +kernel
theorem dX1_tableStep_23 : decode cX1_tableStep 23 = .ok (.getfield 18, 3) := by decide +kernel
theorem dX1_tableStep_26 : decode cX1_tableStep 26 = .ok (.invokestatic 42, 3) := by decide +kernel
theorem dX1_tableStep_29 : decode cX1_tableStep 29 = .ok (.istore 6, 2) := by decide +kernel
theorem dX1_tableStep_31 : decode cX1_tableStep 31 = .ok (.iload 6, 2) := by decide +kernel
theorem dX1_tableStep_33 : decode cX1_tableStep 33 = .ok (.iload 4, 2) := by decide +kernel
theorem dX1_tableStep_35 : decode cX1_tableStep 35 = .ok (.if_icmp .ge 20, 3) := by decide +kernel
theorem dX1_tableStep_38 : decode cX1_tableStep 38 = .ok (.aload_n 0, 1) := by decide +kernel
theorem dX1_tableStep_39 : decode cX1_tableStep 39 = .ok (.iload 5, 2) := by decide +kernel
theorem dX1_tableStep_41 : decode cX1_tableStep 41 = .ok (.invokevirtual 45, 3) := by decide +kernel
theorem dX1_tableStep_44 : decode cX1_tableStep 44 = .ok (.iload_n 1, 1) := by decide +kernel
theorem dX1_tableStep_45 : decode cX1_tableStep 45 = .ok (.if_icmp .lt 10, 3) := by decide +kernel
theorem dX1_tableStep_48 : decode cX1_tableStep 48 = .ok (.iload 5, 2) := by decide +kernel
theorem dX1_tableStep_50 : decode cX1_tableStep 50 = .ok (.istore_n 3, 1) := by decide +kernel
theorem dX1_tableStep_51 : decode cX1_tableStep 51 = .ok (.iload 6, 2) := by decide +kernel
theorem dX1_tableStep_53 : decode cX1_tableStep 53 = .ok (.istore 4, 2) := by decide +kernel
theorem dX1_tableStep_55 : decode cX1_tableStep 55 = .ok (.iinc 5 1, 3) := by decide +kernel
theorem dX1_tableStep_58 : decode cX1_tableStep 58 = .ok (.goto (-49), 3) := by decide +kernel
theorem dX1_tableStep_61 : decode cX1_tableStep 61 = .ok (.iload_n 3, 1) := by decide +kernel
theorem dX1_tableStep_62 : decode cX1_tableStep 62 = .ok (.ireturn, 1) := by decide +kernel
theorem dX1_unlikePlaces_0 : decode cX1_unlikePlaces 0 = .ok (.iconst 1, 1) := by decide +kernel
theorem dX1_unlikePlaces_1 : decode cX1_unlikePlaces 1 = .ok (.istore_n 2, 1) := by decide +kernel
theorem dX1_unlikePlaces_2 : decode cX1_unlikePlaces 2 = .ok (.iload_n 1, 1) := by decide +kernel
theorem dX1_unlikePlaces_3 : decode cX1_unlikePlaces 3 = .ok (.istore_n 3, 1) := by decide +kernel
theorem dX1_unlikePlaces_4 : decode cX1_unlikePlaces 4 = .ok (.iload_n 2, 1) := by decide +kernel
theorem dX1_unlikePlaces_5 : decode cX1_unlikePlaces 5 = .ok (.aload_n 0, 1) := by decide +kernel
theorem dX1_unlikePlaces_6 : decode cX1_unlikePlaces 6 = .ok (.getfield 18, 3) := by decide +kernel
theorem dX1_unlikePlaces_9 : decode cX1_unlikePlaces 9 = .ok (.if_icmp .ge 22, 3) := by decide +kernel
theorem dX1_unlikePlaces_12 : decode cX1_unlikePlaces 12 = .ok (.iload_n 3, 1) := by decide +kernel
theorem dX1_unlikePlaces_13 : decode cX1_unlikePlaces 13 = .ok (.ifCond .eq 18, 3) := by decide +kernel
theorem dX1_unlikePlaces_16 : decode cX1_unlikePlaces 16 = .ok (.iload_n 3, 1) := by decide +kernel
theorem dX1_unlikePlaces_17 : decode cX1_unlikePlaces 17 = .ok (.iload_n 1, 1) := by decide +kernel
theorem dX1_unlikePlaces_18 : decode cX1_unlikePlaces 18 = .ok (.iadd, 1) := by decide +kernel
theorem dX1_unlikePlaces_19 : decode cX1_unlikePlaces 19 = .ok (.aload_n 0, 1) := by decide +kernel
theorem dX1_unlikePlaces_20 : decode cX1_unlikePlaces 20 = .ok (.getfield 18, 3) := by decide +kernel
theorem dX1_unlikePlaces_23 : decode cX1_unlikePlaces 23 = .ok (.irem, 1) := by decide +kernel
theorem dX1_unlikePlaces_24 : decode cX1_unlikePlaces 24 = .ok (.istore_n 3, 1) := by decide +kernel
theorem dX1_unlikePlaces_25 : decode cX1_unlikePlaces 25 = .ok (.iinc 2 1, 3) := by decide +kernel
theorem dX1_unlikePlaces_28 : decode cX1_unlikePlaces 28 = .ok (.goto (-24), 3) := by decide +kernel
theorem dX1_unlikePlaces_31 : decode cX1_unlikePlaces 31 = .ok (.iload_n 2, 1) := by decide +kernel
theorem dX1_unlikePlaces_32 : decode cX1_unlikePlaces 32 = .ok (.ireturn, 1) := by decide +kernel
theorem dX2_init_0 : decode cX2_init 0 = .ok (.aload_n 0, 1) := by decide +kernel
theorem dX2_init_1 : decode cX2_init 1 = .ok (.invokespecial 3, 3) := by decide +kernel
theorem dX2_init_4 : decode cX2_init 4 = .ok (.aload_n 0, 1) := by decide +kernel
theorem dX2_init_5 : decode cX2_init 5 = .ok (.new 9, 3) := by decide +kernel
theorem dX2_init_8 : decode cX2_init 8 = .ok (.dup, 1) := by decide +kernel
theorem dX2_init_9 : decode cX2_init 9 = .ok (.invokespecial 11, 3) := by decide +kernel
theorem dX2_init_12 : decode cX2_init 12 = .ok (.putfield 12, 3) := by decide +kernel
theorem dX2_init_15 : decode cX2_init 15 = .ok (.aload_n 0, 1) := by decide +kernel
theorem dX2_init_16 : decode cX2_init 16 = .ok (.aload_n 1, 1) := by decide +kernel
theorem dX2_init_17 : decode cX2_init 17 = .ok (.putfield 18, 3) := by decide +kernel
theorem dX2_init_20 : decode cX2_init 20 = .ok (.return_, 1) := by decide +kernel
theorem dX2_read_0 : decode cX2_read 0 = .ok (.aload_n 0, 1) := by decide +kernel
theorem dX2_read_1 : decode cX2_read 1 = .ok (.getfield 18, 3) := by decide +kernel
theorem dX2_read_4 : decode cX2_read 4 = .ok (.invokevirtual 22, 3) := by decide +kernel
theorem dX2_read_7 : decode cX2_read 7 = .ok (.aload_n 0, 1) := by decide +kernel
theorem dX2_read_8 : decode cX2_read 8 = .ok (.getfield 12, 3) := by decide +kernel
theorem dX2_read_11 : decode cX2_read 11 = .ok (.iconst 0, 1) := by decide +kernel
theorem dX2_read_12 : decode cX2_read 12 = .ok (.putfield 27, 3) := by decide +kernel
theorem dX2_read_15 : decode cX2_read 15 = .ok (.aload_n 0, 1) := by decide +kernel
theorem dX2_read_16 : decode cX2_read 16 = .ok (.invokevirtual 31, 3) := by decide +kernel
theorem dX2_read_19 : decode cX2_read 19 = .ok (.ifCond .eq 10, 3) := by decide +kernel
theorem dX2_read_22 : decode cX2_read 22 = .ok (.aload_n 0, 1) := by decide +kernel
theorem dX2_read_23 : decode cX2_read 23 = .ok (.invokevirtual 35, 3) := by decide +kernel
theorem dX2_read_26 : decode cX2_read 26 = .ok (.ifCond .ne 5, 3) := by decide +kernel
theorem dX2_read_29 : decode cX2_read 29 = .ok (.iconst 0, 1) := by decide +kernel
theorem dX2_read_30 : decode cX2_read 30 = .ok (.ireturn, 1) := by decide +kernel
theorem dX2_read_31 : decode cX2_read 31 = .ok (.iconst 1, 1) := by decide +kernel
theorem dX2_read_32 : decode cX2_read 32 = .ok (.istore_n 1, 1) := by decide +kernel
theorem dX2_read_33 : decode cX2_read 33 = .ok (.iload_n 1, 1) := by decide +kernel
theorem dX2_read_34 : decode cX2_read 34 = .ok (.iconst 4, 1) := by decide +kernel
theorem dX2_read_35 : decode cX2_read 35 = .ok (.if_icmp .gt 28, 3) := by decide +kernel
theorem dX2_read_38 : decode cX2_read 38 = .ok (.aload_n 0, 1) := by decide +kernel
theorem dX2_read_39 : decode cX2_read 39 = .ok (.getfield 18, 3) := by decide +kernel
theorem dX2_read_42 : decode cX2_read 42 = .ok (.getfield 38, 3) := by decide +kernel
theorem dX2_read_45 : decode cX2_read 45 = .ok (.ifCond .eq 18, 3) := by decide +kernel
theorem dX2_read_48 : decode cX2_read 48 = .ok (.aload_n 0, 1) := by decide +kernel
theorem dX2_read_49 : decode cX2_read 49 = .ok (.invokevirtual 35, 3) := by decide +kernel
theorem dX2_read_52 : decode cX2_read 52 = .ok (.ifCond .ne 5, 3) := by decide +kernel
theorem dX2_read_55 : decode cX2_read 55 = .ok (.iconst 0, 1) := by decide +kernel
theorem dX2_read_56 : decode cX2_read 56 = .ok (.ireturn, 1) := by decide +kernel
theorem dX2_read_57 : decode cX2_read 57 = .ok (.iinc 1 1, 3) := by decide +kernel
theorem dX2_read_60 : decode cX2_read 60 = .ok (.goto (-27), 3) := by decide +kernel
theorem dX2_read_63 : decode cX2_read 63 = .ok (.iconst 1, 1) := by decide +kernel
theorem dX2_read_64 : decode cX2_read 64 = .ok (.ireturn, 1) := by decide +kernel
theorem dX2_readWords_0 : decode cX2_readWords 0 = .ok (.aload_n 0, 1) := by decide +kernel
theorem dX2_readWords_1 : decode cX2_readWords 1 = .ok (.getfield 18, 3) := by decide +kernel
theorem dX2_readWords_4 : decode cX2_readWords 4 = .ok (.ldc 41, 2) := by decide +kernel
theorem dX2_readWords_6 : decode cX2_readWords 6 = .ok (.invokevirtual 43, 3) := by decide +kernel
theorem dX2_readWords_9 : decode cX2_readWords 9 = .ok (.ifCond .ne 19, 3) := by decide +kernel
theorem dX2_readWords_12 : decode cX2_readWords 12 = .ok (.aload_n 0, 1) := by decide +kernel
theorem dX2_readWords_13 : decode cX2_readWords 13 = .ok (.getfield 18, 3) := by decide +kernel
theorem dX2_readWords_16 : decode cX2_readWords 16 = .ok (.iconst 1, 1) := by decide +kernel
theorem dX2_readWords_17 : decode cX2_readWords 17 = .ok (.aload_n 0, 1) := by decide +kernel
theorem dX2_readWords_18 : decode cX2_readWords 18 = .ok (.getfield 18, 3) := by decide +kernel
theorem dX2_readWords_21 : decode cX2_readWords 21 = .ok (.getfield 47, 3) := by decide +kernel
theorem dX2_readWords_24 : decode cX2_readWords 24 = .ok (.invokevirtual 50, 3) := by decide +kernel
theorem dX2_readWords_27 : decode cX2_readWords 27 = .ok (.ireturn, 1) := by decide +kernel
theorem dX2_readWords_28 : decode cX2_readWords 28 = .ok (.aload_n 0, 1) := by decide +kernel
theorem dX2_readWords_29 : decode cX2_readWords 29 = .ok (.getfield 18, 3) := by decide +kernel
theorem dX2_readWords_32 : decode cX2_readWords 32 = .ok (.invokevirtual 54, 3) := by decide +kernel
theorem dX2_readWords_35 : decode cX2_readWords 35 = .ok (.aload_n 0, 1) := by decide +kernel
theorem dX2_readWords_36 : decode cX2_readWords 36 = .ok (.bipush 8, 2) := by decide +kernel
theorem dX2_readWords_38 : decode cX2_readWords 38 = .ok (.bipush 32, 2) := by decide +kernel
theorem dX2_readWords_40 : decode cX2_readWords 40 = .ok (.invokevirtual 57, 3) := by decide +kernel
theorem dX2_readWords_43 : decode cX2_readWords 43 = .ok (.ifCond .ne 5, 3) := by decide +kernel
theorem dX2_readWords_46 : decode cX2_readWords 46 = .ok (.iconst 0, 1) := by decide +kernel
theorem dX2_readWords_47 : decode cX2_readWords 47 = .ok (.ireturn, 1) := by decide +kernel
theorem dX2_readWords_48 : decode cX2_readWords 48 = .ok (.aload_n 0, 1) := by decide +kernel
theorem dX2_readWords_49 : decode cX2_readWords 49 = .ok (.getfield 12, 3) := by decide +kernel
theorem dX2_readWords_52 : decode cX2_readWords 52 = .ok (.aload_n 0, 1) := by decide +kernel
theorem dX2_readWords_53 : decode cX2_readWords 53 = .ok (.getfield 18, 3) := by decide +kernel
theorem dX2_readWords_56 : decode cX2_readWords 56 = .ok (.getfield 60, 3) := by decide +kernel
theorem dX2_readWords_59 : decode cX2_readWords 59 = .ok (.putfield 63, 3) := by decide +kernel
theorem dX2_readWords_62 : decode cX2_readWords 62 = .ok (.aload_n 0, 1) := by decide +kernel
theorem dX2_readWords_63 : decode cX2_readWords 63 = .ok (.getfield 18, 3) := by decide +kernel
theorem dX2_readWords_66 : decode cX2_readWords 66 = .ok (.invokevirtual 54, 3) := by decide +kernel
theorem dX2_readWords_69 : decode cX2_readWords 69 = .ok (.aload_n 0, 1) := by decide +kernel
theorem dX2_readWords_70 : decode cX2_readWords 70 = .ok (.getfield 18, 3) := by decide +kernel
theorem dX2_readWords_73 : decode cX2_readWords 73 = .ok (.bipush 59, 2) := by decide +kernel
theorem dX2_readWords_75 : decode cX2_readWords 75 = .ok (.invokevirtual 65, 3) := by decide +kernel
theorem dX2_readWords_78 : decode cX2_readWords 78 = .ok (.ireturn, 1) := by decide +kernel
theorem dX2_readTrack_0 : decode cX2_readTrack 0 = .ok (.aload_n 0, 1) := by decide +kernel
theorem dX2_readTrack_1 : decode cX2_readTrack 1 = .ok (.getfield 18, 3) := by decide +kernel
theorem dX2_readTrack_4 : decode cX2_readTrack 4 = .ok (.ldc 69, 2) := by decide +kernel
theorem dX2_readTrack_6 : decode cX2_readTrack 6 = .ok (.invokevirtual 43, 3) := by decide +kernel
theorem dX2_readTrack_9 : decode cX2_readTrack 9 = .ok (.istore_n 1, 1) := by decide +kernel
theorem dX2_readTrack_10 : decode cX2_readTrack 10 = .ok (.aload_n 0, 1) := by decide +kernel
theorem dX2_readTrack_11 : decode cX2_readTrack 11 = .ok (.getfield 18, 3) := by decide +kernel
theorem dX2_readTrack_14 : decode cX2_readTrack 14 = .ok (.ldc 71, 2) := by decide +kernel
theorem dX2_readTrack_16 : decode cX2_readTrack 16 = .ok (.invokevirtual 43, 3) := by decide +kernel
theorem dX2_readTrack_19 : decode cX2_readTrack 19 = .ok (.istore_n 2, 1) := by decide +kernel
theorem dX2_readTrack_20 : decode cX2_readTrack 20 = .ok (.iload_n 1, 1) := by decide +kernel
theorem dX2_readTrack_21 : decode cX2_readTrack 21 = .ok (.ifCond .ne 35, 3) := by decide +kernel
theorem dX2_readTrack_24 : decode cX2_readTrack 24 = .ok (.iload_n 2, 1) := by decide +kernel
theorem dX2_readTrack_25 : decode cX2_readTrack 25 = .ok (.ifCond .ne 31, 3) := by decide +kernel
theorem dX2_readTrack_28 : decode cX2_readTrack 28 = .ok (.aload_n 0, 1) := by decide +kernel
theorem dX2_readTrack_29 : decode cX2_readTrack 29 = .ok (.getfield 18, 3) := by decide +kernel
theorem dX2_readTrack_32 : decode cX2_readTrack 32 = .ok (.ldc 73, 2) := by decide +kernel
theorem dX2_readTrack_34 : decode cX2_readTrack 34 = .ok (.invokevirtual 43, 3) := by decide +kernel
theorem dX2_readTrack_37 : decode cX2_readTrack 37 = .ok (.ifCond .ne 19, 3) := by decide +kernel
theorem dX2_readTrack_40 : decode cX2_readTrack 40 = .ok (.aload_n 0, 1) := by decide +kernel
theorem dX2_readTrack_41 : decode cX2_readTrack 41 = .ok (.getfield 18, 3) := by decide +kernel
theorem dX2_readTrack_44 : decode cX2_readTrack 44 = .ok (.iconst 1, 1) := by decide +kernel
theorem dX2_readTrack_45 : decode cX2_readTrack 45 = .ok (.aload_n 0, 1) := by decide +kernel
theorem dX2_readTrack_46 : decode cX2_readTrack 46 = .ok (.getfield 18, 3) := by decide +kernel
theorem dX2_readTrack_49 : decode cX2_readTrack 49 = .ok (.getfield 47, 3) := by decide +kernel
theorem dX2_readTrack_52 : decode cX2_readTrack 52 = .ok (.invokevirtual 50, 3) := by decide +kernel
theorem dX2_readTrack_55 : decode cX2_readTrack 55 = .ok (.ireturn, 1) := by decide +kernel
theorem dX2_readTrack_56 : decode cX2_readTrack 56 = .ok (.aload_n 0, 1) := by decide +kernel
theorem dX2_readTrack_57 : decode cX2_readTrack 57 = .ok (.getfield 12, 3) := by decide +kernel
theorem dX2_readTrack_60 : decode cX2_readTrack 60 = .ok (.getfield 27, 3) := by decide +kernel
theorem dX2_readTrack_63 : decode cX2_readTrack 63 = .ok (.iconst 4, 1) := by decide +kernel
theorem dX2_readTrack_64 : decode cX2_readTrack 64 = .ok (.if_icmp .lt 19, 3) := by decide +kernel
theorem dX2_readTrack_67 : decode cX2_readTrack 67 = .ok (.aload_n 0, 1) := by decide +kernel
theorem dX2_readTrack_68 : decode cX2_readTrack 68 = .ok (.getfield 18, 3) := by decide +kernel
theorem dX2_readTrack_71 : decode cX2_readTrack 71 = .ok (.iconst 4, 1) := by decide +kernel
theorem dX2_readTrack_72 : decode cX2_readTrack 72 = .ok (.aload_n 0, 1) := by decide +kernel
theorem dX2_readTrack_73 : decode cX2_readTrack 73 = .ok (.getfield 18, 3) := by decide +kernel
theorem dX2_readTrack_76 : decode cX2_readTrack 76 = .ok (.getfield 47, 3) := by decide +kernel
theorem dX2_readTrack_79 : decode cX2_readTrack 79 = .ok (.invokevirtual 50, 3) := by decide +kernel
theorem dX2_readTrack_82 : decode cX2_readTrack 82 = .ok (.ireturn, 1) := by decide +kernel
theorem dX2_readTrack_83 : decode cX2_readTrack 83 = .ok (.aload_n 0, 1) := by decide +kernel
theorem dX2_readTrack_84 : decode cX2_readTrack 84 = .ok (.getfield 18, 3) := by decide +kernel
theorem dX2_readTrack_87 : decode cX2_readTrack 87 = .ok (.invokevirtual 54, 3) := by decide +kernel
theorem dX2_readTrack_90 : decode cX2_readTrack 90 = .ok (.iload_n 1, 1) := by decide +kernel
theorem dX2_readTrack_91 : decode cX2_readTrack 91 = .ok (.ifCond .eq 8, 3) := by decide +kernel
theorem dX2_readTrack_94 : decode cX2_readTrack 94 = .ok (.aload_n 0, 1) := by decide +kernel
theorem dX2_readTrack_95 : decode cX2_readTrack 95 = .ok (.invokevirtual 75, 3) := by decide +kernel
theorem dX2_readTrack_98 : decode cX2_readTrack 98 = .ok (.ireturn, 1) := by decide +kernel
theorem dX2_readTrack_99 : decode cX2_readTrack 99 = .ok (.iload_n 2, 1) := by decide +kernel
theorem dX2_readTrack_100 : decode cX2_readTrack 100 = .ok (.ifCond .eq 8, 3) := by decide +kernel
theorem dX2_readTrack_103 : decode cX2_readTrack 103 = .ok (.aload_n 0, 1) := by decide +kernel
theorem dX2_readTrack_104 : decode cX2_readTrack 104 = .ok (.invokevirtual 78, 3) := by decide +kernel
theorem dX2_readTrack_107 : decode cX2_readTrack 107 = .ok (.ireturn, 1) := by decide +kernel
theorem dX2_readTrack_108 : decode cX2_readTrack 108 = .ok (.aload_n 0, 1) := by decide +kernel
theorem dX2_readTrack_109 : decode cX2_readTrack 109 = .ok (.getfield 12, 3) := by decide +kernel
theorem dX2_readTrack_112 : decode cX2_readTrack 112 = .ok (.aload_n 0, 1) := by decide +kernel
theorem dX2_readTrack_113 : decode cX2_readTrack 113 = .ok (.getfield 12, 3) := by decide +kernel
theorem dX2_readTrack_116 : decode cX2_readTrack 116 = .ok (.getfield 63, 3) := by decide +kernel
theorem dX2_readTrack_119 : decode cX2_readTrack 119 = .ok (.aload_n 0, 1) := by decide +kernel
theorem dX2_readTrack_120 : decode cX2_readTrack 120 = .ok (.getfield 12, 3) := by decide +kernel
theorem dX2_readTrack_123 : decode cX2_readTrack 123 = .ok (.getfield 63, 3) := by decide +kernel
theorem dX2_readTrack_126 : decode cX2_readTrack 126 = .ok (.invokevirtual 81, 3) := by decide +kernel
theorem dX2_readTrack_129 : decode cX2_readTrack 129 = .ok (.aload_n 0, 1) := by decide +kernel
theorem dX2_readTrack_130 : decode cX2_readTrack 130 = .ok (.getfield 18, 3) := by decide +kernel
theorem dX2_readTrack_133 : decode cX2_readTrack 133 = .ok (.bipush 59, 2) := by decide +kernel
theorem dX2_readTrack_135 : decode cX2_readTrack 135 = .ok (.invokevirtual 65, 3) := by decide +kernel
theorem dX2_readTrack_138 : decode cX2_readTrack 138 = .ok (.ireturn, 1) := by decide +kernel
theorem dX2_readHeads_0 : decode cX2_readHeads 0 = .ok (.aload_n 0, 1) := by decide +kernel
theorem dX2_readHeads_1 : decode cX2_readHeads 1 = .ok (.iconst 2, 1) := by decide +kernel
theorem dX2_readHeads_2 : decode cX2_readHeads 2 = .ok (.iconst 4, 1) := by decide +kernel
theorem dX2_readHeads_3 : decode cX2_readHeads 3 = .ok (.invokevirtual 57, 3) := by decide +kernel
theorem dX2_readHeads_6 : decode cX2_readHeads 6 = .ok (.ifCond .ne 5, 3) := by decide +kernel
theorem dX2_readHeads_9 : decode cX2_readHeads 9 = .ok (.iconst 0, 1) := by decide +kernel
theorem dX2_readHeads_10 : decode cX2_readHeads 10 = .ok (.ireturn, 1) := by decide +kernel
theorem dX2_readHeads_11 : decode cX2_readHeads 11 = .ok (.aload_n 0, 1) := by decide +kernel
theorem dX2_readHeads_12 : decode cX2_readHeads 12 = .ok (.getfield 18, 3) := by decide +kernel
theorem dX2_readHeads_15 : decode cX2_readHeads 15 = .ok (.getfield 60, 3) := by decide +kernel
theorem dX2_readHeads_18 : decode cX2_readHeads 18 = .ok (.istore_n 1, 1) := by decide +kernel
theorem dX2_readHeads_19 : decode cX2_readHeads 19 = .ok (.iload_n 1, 1) := by decide +kernel
theorem dX2_readHeads_20 : decode cX2_readHeads 20 = .ok (.iconst 2, 1) := by decide +kernel
theorem dX2_readHeads_21 : decode cX2_readHeads 21 = .ok (.if_icmp .lt 20, 3) := by decide +kernel
theorem dX2_readHeads_24 : decode cX2_readHeads 24 = .ok (.iload_n 1, 1) := by decide +kernel
theorem dX2_readHeads_25 : decode cX2_readHeads 25 = .ok (.iconst 3, 1) := by decide +kernel
theorem dX2_readHeads_26 : decode cX2_readHeads 26 = .ok (.if_icmp .eq 15, 3) := by decide +kernel
theorem dX2_readHeads_29 : decode cX2_readHeads 29 = .ok (.aload_n 0, 1) := by decide +kernel
theorem dX2_readHeads_30 : decode cX2_readHeads 30 = .ok (.getfield 12, 3) := by decide +kernel
theorem dX2_readHeads_33 : decode cX2_readHeads 33 = .ok (.getfield 63, 3) := by decide +kernel
theorem dX2_readHeads_36 : decode cX2_readHeads 36 = .ok (.iload_n 1, 1) := by decide +kernel
theorem dX2_readHeads_37 : decode cX2_readHeads 37 = .ok (.irem, 1) := by decide +kernel
theorem dX2_readHeads_38 : decode cX2_readHeads 38 = .ok (.ifCond .eq 19, 3) := by decide +kernel
theorem dX2_readHeads_41 : decode cX2_readHeads 41 = .ok (.aload_n 0, 1) := by decide +kernel
theorem dX2_readHeads_42 : decode cX2_readHeads 42 = .ok (.getfield 18, 3) := by decide +kernel
theorem dX2_readHeads_45 : decode cX2_readHeads 45 = .ok (.iconst 2, 1) := by decide +kernel
theorem dX2_readHeads_46 : decode cX2_readHeads 46 = .ok (.aload_n 0, 1) := by decide +kernel
theorem dX2_readHeads_47 : decode cX2_readHeads 47 = .ok (.getfield 18, 3) := by decide +kernel
theorem dX2_readHeads_50 : decode cX2_readHeads 50 = .ok (.getfield 47, 3) := by decide +kernel
theorem dX2_readHeads_53 : decode cX2_readHeads 53 = .ok (.invokevirtual 50, 3) := by decide +kernel
theorem dX2_readHeads_56 : decode cX2_readHeads 56 = .ok (.ireturn, 1) := by decide +kernel
theorem dX2_readHeads_57 : decode cX2_readHeads 57 = .ok (.aload_n 0, 1) := by decide +kernel
theorem dX2_readHeads_58 : decode cX2_readHeads 58 = .ok (.getfield 12, 3) := by decide +kernel
theorem dX2_readHeads_61 : decode cX2_readHeads 61 = .ok (.aload_n 0, 1) := by decide +kernel
theorem dX2_readHeads_62 : decode cX2_readHeads 62 = .ok (.getfield 12, 3) := by decide +kernel
theorem dX2_readHeads_65 : decode cX2_readHeads 65 = .ok (.getfield 63, 3) := by decide +kernel
theorem dX2_readHeads_68 : decode cX2_readHeads 68 = .ok (.iload_n 1, 1) := by decide +kernel
theorem dX2_readHeads_69 : decode cX2_readHeads 69 = .ok (.idiv, 1) := by decide +kernel
theorem dX2_readHeads_70 : decode cX2_readHeads 70 = .ok (.aload_n 0, 1) := by decide +kernel
theorem dX2_readHeads_71 : decode cX2_readHeads 71 = .ok (.getfield 12, 3) := by decide +kernel
theorem dX2_readHeads_74 : decode cX2_readHeads 74 = .ok (.getfield 63, 3) := by decide +kernel
theorem dX2_readHeads_77 : decode cX2_readHeads 77 = .ok (.invokevirtual 81, 3) := by decide +kernel
theorem dX2_readHeads_80 : decode cX2_readHeads 80 = .ok (.aload_n 0, 1) := by decide +kernel
theorem dX2_readHeads_81 : decode cX2_readHeads 81 = .ok (.getfield 18, 3) := by decide +kernel
theorem dX2_readHeads_84 : decode cX2_readHeads 84 = .ok (.invokevirtual 54, 3) := by decide +kernel
theorem dX2_readHeads_87 : decode cX2_readHeads 87 = .ok (.aload_n 0, 1) := by decide +kernel
theorem dX2_readHeads_88 : decode cX2_readHeads 88 = .ok (.getfield 18, 3) := by decide +kernel
theorem dX2_readHeads_91 : decode cX2_readHeads 91 = .ok (.bipush 59, 2) := by decide +kernel
theorem dX2_readHeads_93 : decode cX2_readHeads 93 = .ok (.invokevirtual 65, 3) := by decide +kernel
theorem dX2_readHeads_96 : decode cX2_readHeads 96 = .ok (.ireturn, 1) := by decide +kernel
theorem dX2_readQuickWords_0 : decode cX2_readQuickWords 0 = .ok (.aload_n 0, 1) := by decide +kernel
theorem dX2_readQuickWords_1 : decode cX2_readQuickWords 1 = .ok (.iconst 2, 1) := by decide +kernel
theorem dX2_readQuickWords_2 : decode cX2_readQuickWords 2 = .ok (.bipush 8, 2) := by decide +kernel
theorem dX2_readQuickWords_4 : decode cX2_readQuickWords 4 = .ok (.aload_n 0, 1) := by decide +kernel
theorem dX2_readQuickWords_5 : decode cX2_readQuickWords 5 = .ok (.getfield 12, 3) := by decide +kernel
theorem dX2_readQuickWords_8 : decode cX2_readQuickWords 8 = .ok (.getfield 63, 3) := by decide +kernel
theorem dX2_readQuickWords_11 : decode cX2_readQuickWords 11 = .ok (.invokestatic 85, 3) := by decide +kernel
theorem dX2_readQuickWords_14 : decode cX2_readQuickWords 14 = .ok (.invokevirtual 57, 3) := by decide +kernel
theorem dX2_readQuickWords_17 : decode cX2_readQuickWords 17 = .ok (.ifCond .ne 5, 3) := by decide +kernel
theorem dX2_readQuickWords_20 : decode cX2_readQuickWords 20 = .ok (.iconst 0, 1) := by decide +kernel
theorem dX2_readQuickWords_21 : decode cX2_readQuickWords 21 = .ok (.ireturn, 1) := by decide +kernel
theorem dX2_readQuickWords_22 : decode cX2_readQuickWords 22 = .ok (.aload_n 0, 1) := by decide +kernel
theorem dX2_readQuickWords_23 : decode cX2_readQuickWords 23 = .ok (.getfield 12, 3) := by decide +kernel
theorem dX2_readQuickWords_26 : decode cX2_readQuickWords 26 = .ok (.aload_n 0, 1) := by decide +kernel
theorem dX2_readQuickWords_27 : decode cX2_readQuickWords 27 = .ok (.getfield 18, 3) := by decide +kernel
theorem dX2_readQuickWords_30 : decode cX2_readQuickWords 30 = .ok (.getfield 60, 3) := by decide +kernel
theorem dX2_readQuickWords_33 : decode cX2_readQuickWords 33 = .ok (.aload_n 0, 1) := by decide +kernel
theorem dX2_readQuickWords_34 : decode cX2_readQuickWords 34 = .ok (.getfield 18, 3) := by decide +kernel
theorem dX2_readQuickWords_37 : decode cX2_readQuickWords 37 = .ok (.getfield 60, 3) := by decide +kernel
theorem dX2_readQuickWords_40 : decode cX2_readQuickWords 40 = .ok (.invokevirtual 81, 3) := by decide +kernel
theorem dX2_readQuickWords_43 : decode cX2_readQuickWords 43 = .ok (.aload_n 0, 1) := by decide +kernel
theorem dX2_readQuickWords_44 : decode cX2_readQuickWords 44 = .ok (.getfield 18, 3) := by decide +kernel
theorem dX2_readQuickWords_47 : decode cX2_readQuickWords 47 = .ok (.invokevirtual 54, 3) := by decide +kernel
theorem dX2_readQuickWords_50 : decode cX2_readQuickWords 50 = .ok (.aload_n 0, 1) := by decide +kernel
theorem dX2_readQuickWords_51 : decode cX2_readQuickWords 51 = .ok (.getfield 18, 3) := by decide +kernel
theorem dX2_readQuickWords_54 : decode cX2_readQuickWords 54 = .ok (.bipush 59, 2) := by decide +kernel
theorem dX2_readQuickWords_56 : decode cX2_readQuickWords 56 = .ok (.invokevirtual 65, 3) := by decide +kernel
theorem dX2_readQuickWords_59 : decode cX2_readQuickWords 59 = .ok (.ireturn, 1) := by decide +kernel
theorem dX2_numberIsWithin_0 : decode cX2_numberIsWithin 0 = .ok (.aload_n 0, 1) := by decide +kernel
theorem dX2_numberIsWithin_1 : decode cX2_numberIsWithin 1 = .ok (.getfield 18, 3) := by decide +kernel
theorem dX2_numberIsWithin_4 : decode cX2_numberIsWithin 4 = .ok (.getfield 38, 3) := by decide +kernel
theorem dX2_numberIsWithin_7 : decode cX2_numberIsWithin 7 = .ok (.iconst 2, 1) := by decide +kernel
theorem dX2_numberIsWithin_8 : decode cX2_numberIsWithin 8 = .ok (.if_icmp .eq 19, 3) := by decide +kernel
theorem dX2_numberIsWithin_11 : decode cX2_numberIsWithin 11 = .ok (.aload_n 0, 1) := by decide +kernel
theorem dX2_numberIsWithin_12 : decode cX2_numberIsWithin 12 = .ok (.getfield 18, 3) := by decide +kernel
theorem dX2_numberIsWithin_15 : decode cX2_numberIsWithin 15 = .ok (.iconst 1, 1) := by decide +kernel
theorem dX2_numberIsWithin_16 : decode cX2_numberIsWithin 16 = .ok (.aload_n 0, 1) := by decide +kernel
theorem dX2_numberIsWithin_17 : decode cX2_numberIsWithin 17 = .ok (.getfield 18, 3) := by decide +kernel
theorem dX2_numberIsWithin_20 : decode cX2_numberIsWithin 20 = .ok (.getfield 47, 3) := by decide +kernel
theorem dX2_numberIsWithin_23 : decode cX2_numberIsWithin 23 = .ok (.invokevirtual 50, 3) := by decide +kernel
theorem dX2_numberIsWithin_26 : decode cX2_numberIsWithin 26 = .ok (.ireturn, 1) := by decide +kernel
theorem dX2_numberIsWithin_27 : decode cX2_numberIsWithin 27 = .ok (.aload_n 0, 1) := by decide +kernel
theorem dX2_numberIsWithin_28 : decode cX2_numberIsWithin 28 = .ok (.getfield 18, 3) := by decide +kernel
theorem dX2_numberIsWithin_31 : decode cX2_numberIsWithin 31 = .ok (.getfield 60, 3) := by decide +kernel
theorem dX2_numberIsWithin_34 : decode cX2_numberIsWithin 34 = .ok (.iload_n 1, 1) := by decide +kernel
theorem dX2_numberIsWithin_35 : decode cX2_numberIsWithin 35 = .ok (.if_icmp .lt 14, 3) := by decide +kernel
theorem dX2_numberIsWithin_38 : decode cX2_numberIsWithin 38 = .ok (.aload_n 0, 1) := by decide +kernel
theorem dX2_numberIsWithin_39 : decode cX2_numberIsWithin 39 = .ok (.getfield 18, 3) := by decide +kernel
theorem dX2_numberIsWithin_42 : decode cX2_numberIsWithin 42 = .ok (.getfield 60, 3) := by decide +kernel
theorem dX2_numberIsWithin_45 : decode cX2_numberIsWithin 45 = .ok (.iload_n 2, 1) := by decide +kernel
theorem dX2_numberIsWithin_46 : decode cX2_numberIsWithin 46 = .ok (.if_icmp .le 19, 3) := by decide +kernel
theorem dX2_numberIsWithin_49 : decode cX2_numberIsWithin 49 = .ok (.aload_n 0, 1) := by decide +kernel
theorem dX2_numberIsWithin_50 : decode cX2_numberIsWithin 50 = .ok (.getfield 18, 3) := by decide +kernel
theorem dX2_numberIsWithin_53 : decode cX2_numberIsWithin 53 = .ok (.iconst 2, 1) := by decide +kernel
theorem dX2_numberIsWithin_54 : decode cX2_numberIsWithin 54 = .ok (.aload_n 0, 1) := by decide +kernel
theorem dX2_numberIsWithin_55 : decode cX2_numberIsWithin 55 = .ok (.getfield 18, 3) := by decide +kernel
theorem dX2_numberIsWithin_58 : decode cX2_numberIsWithin 58 = .ok (.getfield 47, 3) := by decide +kernel
theorem dX2_numberIsWithin_61 : decode cX2_numberIsWithin 61 = .ok (.invokevirtual 50, 3) := by decide +kernel
theorem dX2_numberIsWithin_64 : decode cX2_numberIsWithin 64 = .ok (.ireturn, 1) := by decide +kernel
theorem dX2_numberIsWithin_65 : decode cX2_numberIsWithin 65 = .ok (.iconst 1, 1) := by decide +kernel
theorem dX2_numberIsWithin_66 : decode cX2_numberIsWithin 66 = .ok (.ireturn, 1) := by decide +kernel
theorem dX3_init_0 : decode cX3_init 0 = .ok (.aload_n 0, 1) := by decide +kernel
theorem dX3_init_1 : decode cX3_init 1 = .ok (.invokespecial 3, 3) := by decide +kernel
theorem dX3_init_4 : decode cX3_init 4 = .ok (.aload_n 0, 1) := by decide +kernel
theorem dX3_init_5 : decode cX3_init 5 = .ok (.bipush 64, 2) := by decide +kernel
theorem dX3_init_7 : decode cX3_init 7 = .ok (.newarray .int, 2) := by decide +kernel
theorem dX3_init_9 : decode cX3_init 9 = .ok (.putfield 11, 3) := by decide +kernel
theorem dX3_init_12 : decode cX3_init 12 = .ok (.aload_n 0, 1) := by decide +kernel
theorem dX3_init_13 : decode cX3_init 13 = .ok (.bipush 64, 2) := by decide +kernel
theorem dX3_init_15 : decode cX3_init 15 = .ok (.newarray .int, 2) := by decide +kernel
theorem dX3_init_17 : decode cX3_init 17 = .ok (.putfield 15, 3) := by decide +kernel
theorem dX3_init_20 : decode cX3_init 20 = .ok (.aload_n 0, 1) := by decide +kernel
theorem dX3_init_21 : decode cX3_init 21 = .ok (.bipush 64, 2) := by decide +kernel
theorem dX3_init_23 : decode cX3_init 23 = .ok (.newarray .int, 2) := by decide +kernel
theorem dX3_init_25 : decode cX3_init 25 = .ok (.putfield 18, 3) := by decide +kernel
theorem dX3_init_28 : decode cX3_init 28 = .ok (.aload_n 0, 1) := by decide +kernel
theorem dX3_init_29 : decode cX3_init 29 = .ok (.sipush 128, 3) := by decide +kernel
theorem dX3_init_32 : decode cX3_init 32 = .ok (.newarray .int, 2) := by decide +kernel
theorem dX3_init_34 : decode cX3_init 34 = .ok (.putfield 21, 3) := by decide +kernel
theorem dX3_init_37 : decode cX3_init 37 = .ok (.aload_n 0, 1) := by decide +kernel
theorem dX3_init_38 : decode cX3_init 38 = .ok (.sipush 128, 3) := by decide +kernel
theorem dX3_init_41 : decode cX3_init 41 = .ok (.newarray .boolean, 2) := by decide +kernel
theorem dX3_init_43 : decode cX3_init 43 = .ok (.putfield 24, 3) := by decide +kernel
theorem dX3_init_46 : decode cX3_init 46 = .ok (.aload_n 0, 1) := by decide +kernel
theorem dX3_init_47 : decode cX3_init 47 = .ok (.iconst 4, 1) := by decide +kernel
theorem dX3_init_48 : decode cX3_init 48 = .ok (.bipush 40, 2) := by decide +kernel
theorem dX3_init_50 : decode cX3_init 50 = .ok (.multianewarray 28 2, 4) := by decide +kernel
theorem dX3_init_54 : decode cX3_init 54 = .ok (.putfield 30, 3) := by decide +kernel
theorem dX3_init_57 : decode cX3_init 57 = .ok (.aload_n 0, 1) := by decide +kernel
theorem dX3_init_58 : decode cX3_init 58 = .ok (.iconst 4, 1) := by decide +kernel
theorem dX3_init_59 : decode cX3_init 59 = .ok (.newarray .boolean, 2) := by decide +kernel
theorem dX3_init_61 : decode cX3_init 61 = .ok (.putfield 33, 3) := by decide +kernel
theorem dX3_init_64 : decode cX3_init 64 = .ok (.aload_n 0, 1) := by decide +kernel
theorem dX3_init_65 : decode cX3_init 65 = .ok (.aload_n 1, 1) := by decide +kernel
theorem dX3_init_66 : decode cX3_init 66 = .ok (.putfield 36, 3) := by decide +kernel
theorem dX3_init_69 : decode cX3_init 69 = .ok (.aload_n 0, 1) := by decide +kernel
theorem dX3_init_70 : decode cX3_init 70 = .ok (.getfield 21, 3) := by decide +kernel
theorem dX3_init_73 : decode cX3_init 73 = .ok (.iconst (-1), 1) := by decide +kernel
theorem dX3_init_74 : decode cX3_init 74 = .ok (.invokestatic 40, 3) := by decide +kernel
theorem dX3_init_77 : decode cX3_init 77 = .ok (.aload_n 0, 1) := by decide +kernel
theorem dX3_init_78 : decode cX3_init 78 = .ok (.getfield 18, 3) := by decide +kernel
theorem dX3_init_81 : decode cX3_init 81 = .ok (.iconst 1, 1) := by decide +kernel
theorem dX3_init_82 : decode cX3_init 82 = .ok (.invokestatic 40, 3) := by decide +kernel
theorem dX3_init_85 : decode cX3_init 85 = .ok (.return_, 1) := by decide +kernel
theorem dX3_begin_0 : decode cX3_begin 0 = .ok (.aload_n 0, 1) := by decide +kernel
theorem dX3_begin_1 : decode cX3_begin 1 = .ok (.iconst 0, 1) := by decide +kernel
theorem dX3_begin_2 : decode cX3_begin 2 = .ok (.putfield 46, 3) := by decide +kernel
theorem dX3_begin_5 : decode cX3_begin 5 = .ok (.iconst 0, 1) := by decide +kernel
theorem dX3_begin_6 : decode cX3_begin 6 = .ok (.istore_n 2, 1) := by decide +kernel
theorem dX3_begin_7 : decode cX3_begin 7 = .ok (.iload_n 2, 1) := by decide +kernel
theorem dX3_begin_8 : decode cX3_begin 8 = .ok (.iconst 4, 1) := by decide +kernel
theorem dX3_begin_9 : decode cX3_begin 9 = .ok (.if_icmp .ge 16, 3) := by decide +kernel
theorem dX3_begin_12 : decode cX3_begin 12 = .ok (.aload_n 0, 1) := by decide +kernel
theorem dX3_begin_13 : decode cX3_begin 13 = .ok (.getfield 33, 3) := by decide +kernel
theorem dX3_begin_16 : decode cX3_begin 16 = .ok (.iload_n 2, 1) := by decide +kernel
theorem dX3_begin_17 : decode cX3_begin 17 = .ok (.iconst 0, 1) := by decide +kernel
theorem dX3_begin_18 : decode cX3_begin 18 = .ok (.bastore, 1) := by decide +kernel
theorem dX3_begin_19 : decode cX3_begin 19 = .ok (.iinc 2 1, 3) := by decide +kernel
theorem dX3_begin_22 : decode cX3_begin 22 = .ok (.goto (-15), 3) := by decide +kernel
theorem dX3_begin_25 : decode cX3_begin 25 = .ok (.iconst 0, 1) := by decide +kernel
theorem dX3_begin_26 : decode cX3_begin 26 = .ok (.istore_n 2, 1) := by decide +kernel
theorem dX3_begin_27 : decode cX3_begin 27 = .ok (.iload_n 2, 1) := by decide +kernel
theorem dX3_begin_28 : decode cX3_begin 28 = .ok (.sipush 128, 3) := by decide +kernel
theorem dX3_begin_31 : decode cX3_begin 31 = .ok (.if_icmp .ge 70, 3) := by decide +kernel
theorem dX3_begin_34 : decode cX3_begin 34 = .ok (.aload_n 0, 1) := by decide +kernel
theorem dX3_begin_35 : decode cX3_begin 35 = .ok (.getfield 24, 3) := by decide +kernel
theorem dX3_begin_38 : decode cX3_begin 38 = .ok (.iload_n 2, 1) := by decide +kernel
theorem dX3_begin_39 : decode cX3_begin 39 = .ok (.iconst 0, 1) := by decide +kernel
theorem dX3_begin_40 : decode cX3_begin 40 = .ok (.bastore, 1) := by decide +kernel
theorem dX3_begin_41 : decode cX3_begin 41 = .ok (.aload_n 0, 1) := by decide +kernel
theorem dX3_begin_42 : decode cX3_begin 42 = .ok (.getfield 21, 3) := by decide +kernel
theorem dX3_begin_45 : decode cX3_begin 45 = .ok (.iload_n 2, 1) := by decide +kernel
theorem dX3_begin_46 : decode cX3_begin 46 = .ok (.iconst (-1), 1) := by decide +kernel
theorem dX3_begin_47 : decode cX3_begin 47 = .ok (.iastore, 1) := by decide +kernel
theorem dX3_begin_48 : decode cX3_begin 48 = .ok (.aload_n 0, 1) := by decide +kernel
theorem dX3_begin_49 : decode cX3_begin 49 = .ok (.getfield 46, 3) := by decide +kernel
theorem dX3_begin_52 : decode cX3_begin 52 = .ok (.iload_n 1, 1) := by decide +kernel
theorem dX3_begin_53 : decode cX3_begin 53 = .ok (.if_icmp .ge 42, 3) := by decide +kernel
theorem dX3_begin_56 : decode cX3_begin 56 = .ok (.aload_n 0, 1) := by decide +kernel
theorem dX3_begin_57 : decode cX3_begin 57 = .ok (.getfield 46, 3) := by decide +kernel
theorem dX3_begin_60 : decode cX3_begin 60 = .ok (.bipush 40, 2) := by decide +kernel
theorem dX3_begin_62 : decode cX3_begin 62 = .ok (.if_icmp .ge 33, 3) := by decide +kernel
theorem dX3_begin_65 : decode cX3_begin 65 = .ok (.aload_n 0, 1) := by decide +kernel
theorem dX3_begin_66 : decode cX3_begin 66 = .ok (.getfield 36, 3) := by decide +kernel
theorem dX3_begin_69 : decode cX3_begin 69 = .ok (.iload_n 2, 1) := by decide +kernel
theorem dX3_begin_70 : decode cX3_begin 70 = .ok (.invokevirtual 50, 3) := by decide +kernel
theorem dX3_begin_73 : decode cX3_begin 73 = .ok (.ifCond .eq 22, 3) := by decide +kernel
theorem dX3_begin_76 : decode cX3_begin 76 = .ok (.aload_n 0, 1) := by decide +kernel
theorem dX3_begin_77 : decode cX3_begin 77 = .ok (.aload_n 0, 1) := by decide +kernel
theorem dX3_begin_78 : decode cX3_begin 78 = .ok (.getfield 46, 3) := by decide +kernel
theorem dX3_begin_81 : decode cX3_begin 81 = .ok (.iload_n 2, 1) := by decide +kernel
theorem dX3_begin_82 : decode cX3_begin 82 = .ok (.invokevirtual 56, 3) := by decide +kernel
theorem dX3_begin_85 : decode cX3_begin 85 = .ok (.aload_n 0, 1) := by decide +kernel
theorem dX3_begin_86 : decode cX3_begin 86 = .ok (.dup, 1) := by decide +kernel
theorem dX3_begin_87 : decode cX3_begin 87 = .ok (.getfield 46, 3) := by decide +kernel
theorem dX3_begin_90 : decode cX3_begin 90 = .ok (.iconst 1, 1) := by decide +kernel
theorem dX3_begin_91 : decode cX3_begin 91 = .ok (.iadd, 1) := by decide +kernel
theorem dX3_begin_92 : decode cX3_begin 92 = .ok (.putfield 46, 3) := by decide +kernel
theorem dX3_begin_95 : decode cX3_begin 95 = .ok (.iinc 2 1, 3) := by decide +kernel
theorem dX3_begin_98 : decode cX3_begin 98 = .ok (.goto (-71), 3) := by decide +kernel
theorem dX3_begin_101 : decode cX3_begin 101 = .ok (.return_, 1) := by decide +kernel
theorem dX3_countNames_0 : decode cX3_countNames 0 = .ok (.aload_n 0, 1) := by decide +kernel
theorem dX3_countNames_1 : decode cX3_countNames 1 = .ok (.getfield 46, 3) := by decide +kernel
theorem dX3_countNames_4 : decode cX3_countNames 4 = .ok (.ireturn, 1) := by decide +kernel
theorem dX3_put_0 : decode cX3_put 0 = .ok (.iload_n 1, 1) := by decide +kernel
theorem dX3_put_1 : decode cX3_put 1 = .ok (.ifCond .lt 20, 3) := by decide +kernel
theorem dX3_put_4 : decode cX3_put 4 = .ok (.iload_n 1, 1) := by decide +kernel
theorem dX3_put_5 : decode cX3_put 5 = .ok (.bipush 40, 2) := by decide +kernel
theorem dX3_put_7 : decode cX3_put 7 = .ok (.if_icmp .ge 14, 3) := by decide +kernel
theorem dX3_put_10 : decode cX3_put 10 = .ok (.iload_n 2, 1) := by decide +kernel
theorem dX3_put_11 : decode cX3_put 11 = .ok (.ifCond .lt 10, 3) := by decide +kernel
theorem dX3_put_14 : decode cX3_put 14 = .ok (.iload_n 2, 1) := by decide +kernel
theorem dX3_put_15 : decode cX3_put 15 = .ok (.sipush 128, 3) := by decide +kernel
theorem dX3_put_18 : decode cX3_put 18 = .ok (.if_icmp .lt 4, 3) := by decide +kernel
theorem dX3_put_21 : decode cX3_put 21 = .ok (.return_, 1) := by decide +kernel
theorem dX3_put_22 : decode cX3_put 22 = .ok (.aload_n 0, 1) := by decide +kernel
theorem dX3_put_23 : decode cX3_put 23 = .ok (.getfield 11, 3) := by decide +kernel
theorem dX3_put_26 : decode cX3_put 26 = .ok (.iload_n 1, 1) := by decide +kernel
theorem dX3_put_27 : decode cX3_put 27 = .ok (.iload_n 2, 1) := by decide +kernel
theorem dX3_put_28 : decode cX3_put 28 = .ok (.iastore, 1) := by decide +kernel
theorem dX3_put_29 : decode cX3_put 29 = .ok (.aload_n 0, 1) := by decide +kernel
theorem dX3_put_30 : decode cX3_put 30 = .ok (.getfield 21, 3) := by decide +kernel
theorem dX3_put_33 : decode cX3_put 33 = .ok (.iload_n 2, 1) := by decide +kernel
theorem dX3_put_34 : decode cX3_put 34 = .ok (.iload_n 1, 1) := by decide +kernel
theorem dX3_put_35 : decode cX3_put 35 = .ok (.iastore, 1) := by decide +kernel
theorem dX3_put_36 : decode cX3_put 36 = .ok (.aload_n 0, 1) := by decide +kernel
theorem dX3_put_37 : decode cX3_put 37 = .ok (.getfield 36, 3) := by decide +kernel
theorem dX3_put_40 : decode cX3_put 40 = .ok (.iload_n 2, 1) := by decide +kernel
theorem dX3_put_41 : decode cX3_put 41 = .ok (.invokevirtual 60, 3) := by decide +kernel
theorem dX3_put_44 : decode cX3_put 44 = .ok (.istore_n 3, 1) := by decide +kernel
theorem dX3_put_45 : decode cX3_put 45 = .ok (.iload_n 3, 1) := by decide +kernel
theorem dX3_put_46 : decode cX3_put 46 = .ok (.ifCond .le 26, 3) := by decide +kernel
theorem dX3_put_49 : decode cX3_put 49 = .ok (.aload_n 0, 1) := by decide +kernel
theorem dX3_put_50 : decode cX3_put 50 = .ok (.getfield 18, 3) := by decide +kernel
theorem dX3_put_53 : decode cX3_put 53 = .ok (.iload_n 1, 1) := by decide +kernel
theorem dX3_put_54 : decode cX3_put 54 = .ok (.iload_n 3, 1) := by decide +kernel
theorem dX3_put_55 : decode cX3_put 55 = .ok (.iastore, 1) := by decide +kernel
theorem dX3_put_56 : decode cX3_put 56 = .ok (.aload_n 0, 1) := by decide +kernel
theorem dX3_put_57 : decode cX3_put 57 = .ok (.getfield 15, 3) := by decide +kernel
theorem dX3_put_60 : decode cX3_put 60 = .ok (.iload_n 1, 1) := by decide +kernel
theorem dX3_put_61 : decode cX3_put 61 = .ok (.aload_n 0, 1) := by decide +kernel
theorem dX3_put_62 : decode cX3_put 62 = .ok (.getfield 36, 3) := by decide +kernel
theorem dX3_put_65 : decode cX3_put 65 = .ok (.iload_n 2, 1) := by decide +kernel
theorem dX3_put_66 : decode cX3_put 66 = .ok (.invokevirtual 64, 3) := by decide +kernel
theorem dX3_put_69 : decode cX3_put 69 = .ok (.iload_n 3, 1) := by decide +kernel
theorem dX3_put_70 : decode cX3_put 70 = .ok (.irem, 1) := by decide +kernel
theorem dX3_put_71 : decode cX3_put 71 = .ok (.iastore, 1) := by decide +kernel
theorem dX3_put_72 : decode cX3_put 72 = .ok (.return_, 1) := by decide +kernel
theorem dX3_move_0 : decode cX3_move 0 = .ok (.iload_n 1, 1) := by decide +kernel
theorem dX3_move_1 : decode cX3_move 1 = .ok (.ifCond .lt 30, 3) := by decide +kernel
theorem dX3_move_4 : decode cX3_move 4 = .ok (.iload_n 1, 1) := by decide +kernel
theorem dX3_move_5 : decode cX3_move 5 = .ok (.bipush 40, 2) := by decide +kernel
theorem dX3_move_7 : decode cX3_move 7 = .ok (.if_icmp .ge 24, 3) := by decide +kernel
theorem dX3_move_10 : decode cX3_move 10 = .ok (.aload_n 0, 1) := by decide +kernel
theorem dX3_move_11 : decode cX3_move 11 = .ok (.getfield 11, 3) := by decide +kernel
theorem dX3_move_14 : decode cX3_move 14 = .ok (.iload_n 1, 1) := by decide +kernel
theorem dX3_move_15 : decode cX3_move 15 = .ok (.iaload, 1) := by decide +kernel
theorem dX3_move_16 : decode cX3_move 16 = .ok (.ifCond .lt 15, 3) := by decide +kernel
theorem dX3_move_19 : decode cX3_move 19 = .ok (.aload_n 0, 1) := by decide +kernel
theorem dX3_move_20 : decode cX3_move 20 = .ok (.getfield 11, 3) := by decide +kernel
theorem dX3_move_23 : decode cX3_move 23 = .ok (.iload_n 1, 1) := by decide +kernel
theorem dX3_move_24 : decode cX3_move 24 = .ok (.iaload, 1) := by decide +kernel
theorem dX3_move_25 : decode cX3_move 25 = .ok (.sipush 128, 3) := by decide +kernel
theorem dX3_move_28 : decode cX3_move 28 = .ok (.if_icmp .lt 4, 3) := by decide +kernel
theorem dX3_move_31 : decode cX3_move 31 = .ok (.return_, 1) := by decide +kernel
theorem dX3_move_32 : decode cX3_move 32 = .ok (.aload_n 0, 1) := by decide +kernel
theorem dX3_move_33 : decode cX3_move 33 = .ok (.getfield 21, 3) := by decide +kernel
theorem dX3_move_36 : decode cX3_move 36 = .ok (.aload_n 0, 1) := by decide +kernel
theorem dX3_move_37 : decode cX3_move 37 = .ok (.getfield 11, 3) := by decide +kernel
theorem dX3_move_40 : decode cX3_move 40 = .ok (.iload_n 1, 1) := by decide +kernel
theorem dX3_move_41 : decode cX3_move 41 = .ok (.iaload, 1) := by decide +kernel
theorem dX3_move_42 : decode cX3_move 42 = .ok (.iconst (-1), 1) := by decide +kernel
theorem dX3_move_43 : decode cX3_move 43 = .ok (.iastore, 1) := by decide +kernel
theorem dX3_move_44 : decode cX3_move 44 = .ok (.aload_n 0, 1) := by decide +kernel
theorem dX3_move_45 : decode cX3_move 45 = .ok (.iload_n 1, 1) := by decide +kernel
theorem dX3_move_46 : decode cX3_move 46 = .ok (.iload_n 2, 1) := by decide +kernel
theorem dX3_move_47 : decode cX3_move 47 = .ok (.invokevirtual 56, 3) := by decide +kernel
theorem dX3_move_50 : decode cX3_move 50 = .ok (.return_, 1) := by decide +kernel
theorem dX3_swap_0 : decode cX3_swap 0 = .ok (.iload_n 1, 1) := by decide +kernel
theorem dX3_swap_1 : decode cX3_swap 1 = .ok (.ifCond .lt 19, 3) := by decide +kernel
theorem dX3_swap_4 : decode cX3_swap 4 = .ok (.iload_n 1, 1) := by decide +kernel
theorem dX3_swap_5 : decode cX3_swap 5 = .ok (.bipush 40, 2) := by decide +kernel
theorem dX3_swap_7 : decode cX3_swap 7 = .ok (.if_icmp .ge 13, 3) := by decide +kernel
theorem dX3_swap_10 : decode cX3_swap 10 = .ok (.iload_n 2, 1) := by decide +kernel
theorem dX3_swap_11 : decode cX3_swap 11 = .ok (.ifCond .lt 9, 3) := by decide +kernel
theorem dX3_swap_14 : decode cX3_swap 14 = .ok (.iload_n 2, 1) := by decide +kernel
theorem dX3_swap_15 : decode cX3_swap 15 = .ok (.bipush 40, 2) := by decide +kernel
theorem dX3_swap_17 : decode cX3_swap 17 = .ok (.if_icmp .lt 4, 3) := by decide +kernel
theorem dX3_swap_20 : decode cX3_swap 20 = .ok (.return_, 1) := by decide +kernel
theorem dX3_swap_21 : decode cX3_swap 21 = .ok (.aload_n 0, 1) := by decide +kernel
theorem dX3_swap_22 : decode cX3_swap 22 = .ok (.getfield 11, 3) := by decide +kernel
theorem dX3_swap_25 : decode cX3_swap 25 = .ok (.iload_n 1, 1) := by decide +kernel
theorem dX3_swap_26 : decode cX3_swap 26 = .ok (.iaload, 1) := by decide +kernel
theorem dX3_swap_27 : decode cX3_swap 27 = .ok (.istore_n 3, 1) := by decide +kernel
theorem dX3_swap_28 : decode cX3_swap 28 = .ok (.aload_n 0, 1) := by decide +kernel
theorem dX3_swap_29 : decode cX3_swap 29 = .ok (.iload_n 1, 1) := by decide +kernel
theorem dX3_swap_30 : decode cX3_swap 30 = .ok (.aload_n 0, 1) := by decide +kernel
theorem dX3_swap_31 : decode cX3_swap 31 = .ok (.getfield 11, 3) := by decide +kernel
theorem dX3_swap_34 : decode cX3_swap 34 = .ok (.iload_n 2, 1) := by decide +kernel
theorem dX3_swap_35 : decode cX3_swap 35 = .ok (.iaload, 1) := by decide +kernel
theorem dX3_swap_36 : decode cX3_swap 36 = .ok (.invokevirtual 56, 3) := by decide +kernel
theorem dX3_swap_39 : decode cX3_swap 39 = .ok (.aload_n 0, 1) := by decide +kernel
theorem dX3_swap_40 : decode cX3_swap 40 = .ok (.iload_n 2, 1) := by decide +kernel
theorem dX3_swap_41 : decode cX3_swap 41 = .ok (.iload_n 3, 1) := by decide +kernel
theorem dX3_swap_42 : decode cX3_swap 42 = .ok (.invokevirtual 56, 3) := by decide +kernel
theorem dX3_swap_45 : decode cX3_swap 45 = .ok (.return_, 1) := by decide +kernel
theorem dX3_liesOnBad_0 : decode cX3_liesOnBad 0 = .ok (.iload_n 1, 1) := by decide +kernel
theorem dX3_liesOnBad_1 : decode cX3_liesOnBad 1 = .ok (.ifCond .lt 9, 3) := by decide +kernel
theorem dX3_liesOnBad_4 : decode cX3_liesOnBad 4 = .ok (.iload_n 1, 1) := by decide +kernel
theorem dX3_liesOnBad_5 : decode cX3_liesOnBad 5 = .ok (.bipush 40, 2) := by decide +kernel
theorem dX3_liesOnBad_7 : decode cX3_liesOnBad 7 = .ok (.if_icmp .lt 5, 3) := by decide +kernel
theorem dX3_liesOnBad_10 : decode cX3_liesOnBad 10 = .ok (.iconst 0, 1) := by decide +kernel
theorem dX3_liesOnBad_11 : decode cX3_liesOnBad 11 = .ok (.ireturn, 1) := by decide +kernel
theorem dX3_liesOnBad_12 : decode cX3_liesOnBad 12 = .ok (.aload_n 0, 1) := by decide +kernel
theorem dX3_liesOnBad_13 : decode cX3_liesOnBad 13 = .ok (.getfield 11, 3) := by decide +kernel
theorem dX3_liesOnBad_16 : decode cX3_liesOnBad 16 = .ok (.iload_n 1, 1) := by decide +kernel
theorem dX3_liesOnBad_17 : decode cX3_liesOnBad 17 = .ok (.iaload, 1) := by decide +kernel
theorem dX3_liesOnBad_18 : decode cX3_liesOnBad 18 = .ok (.istore_n 2, 1) := by decide +kernel
theorem dX3_liesOnBad_19 : decode cX3_liesOnBad 19 = .ok (.iload_n 2, 1) := by decide +kernel
theorem dX3_liesOnBad_20 : decode cX3_liesOnBad 20 = .ok (.ifCond .lt 23, 3) := by decide +kernel
theorem dX3_liesOnBad_23 : decode cX3_liesOnBad 23 = .ok (.iload_n 2, 1) := by decide +kernel
theorem dX3_liesOnBad_24 : decode cX3_liesOnBad 24 = .ok (.sipush 128, 3) := by decide +kernel
theorem dX3_liesOnBad_27 : decode cX3_liesOnBad 27 = .ok (.if_icmp .ge 16, 3) := by decide +kernel
theorem dX3_liesOnBad_30 : decode cX3_liesOnBad 30 = .ok (.aload_n 0, 1) := by decide +kernel
theorem dX3_liesOnBad_31 : decode cX3_liesOnBad 31 = .ok (.getfield 24, 3) := by decide +kernel
theorem dX3_liesOnBad_34 : decode cX3_liesOnBad 34 = .ok (.iload_n 2, 1) := by decide +kernel
theorem dX3_liesOnBad_35 : decode cX3_liesOnBad 35 = .ok (.baload, 1) := by decide +kernel
theorem dX3_liesOnBad_36 : decode cX3_liesOnBad 36 = .ok (.ifCond .eq 7, 3) := by decide +kernel
theorem dX3_liesOnBad_39 : decode cX3_liesOnBad 39 = .ok (.iconst 1, 1) := by decide +kernel
theorem dX3_liesOnBad_40 : decode cX3_liesOnBad 40 = .ok (.goto 4, 3) := by decide +kernel
theorem dX3_liesOnBad_43 : decode cX3_liesOnBad 43 = .ok (.iconst 0, 1) := by decide +kernel
theorem dX3_liesOnBad_44 : decode cX3_liesOnBad 44 = .ok (.ireturn, 1) := by decide +kernel
theorem dX3_alikeInTime_0 : decode cX3_alikeInTime 0 = .ok (.aload_n 0, 1) := by decide +kernel
theorem dX3_alikeInTime_1 : decode cX3_alikeInTime 1 = .ok (.getfield 15, 3) := by decide +kernel
theorem dX3_alikeInTime_4 : decode cX3_alikeInTime 4 = .ok (.iload_n 1, 1) := by decide +kernel
theorem dX3_alikeInTime_5 : decode cX3_alikeInTime 5 = .ok (.iaload, 1) := by decide +kernel
theorem dX3_alikeInTime_6 : decode cX3_alikeInTime 6 = .ok (.aload_n 0, 1) := by decide +kernel
theorem dX3_alikeInTime_7 : decode cX3_alikeInTime 7 = .ok (.getfield 15, 3) := by decide +kernel
theorem dX3_alikeInTime_10 : decode cX3_alikeInTime 10 = .ok (.iload_n 2, 1) := by decide +kernel
theorem dX3_alikeInTime_11 : decode cX3_alikeInTime 11 = .ok (.iaload, 1) := by decide +kernel
theorem dX3_alikeInTime_12 : decode cX3_alikeInTime 12 = .ok (.if_icmp .ne 22, 3) := by decide +kernel
theorem dX3_alikeInTime_15 : decode cX3_alikeInTime 15 = .ok (.aload_n 0, 1) := by decide +kernel
theorem dX3_alikeInTime_16 : decode cX3_alikeInTime 16 = .ok (.getfield 18, 3) := by decide +kernel
theorem dX3_alikeInTime_19 : decode cX3_alikeInTime 19 = .ok (.iload_n 1, 1) := by decide +kernel
theorem dX3_alikeInTime_20 : decode cX3_alikeInTime 20 = .ok (.iaload, 1) := by decide +kernel
theorem dX3_alikeInTime_21 : decode cX3_alikeInTime 21 = .ok (.aload_n 0, 1) := by decide +kernel
theorem dX3_alikeInTime_22 : decode cX3_alikeInTime 22 = .ok (.getfield 18, 3) := by decide +kernel
theorem dX3_alikeInTime_25 : decode cX3_alikeInTime 25 = .ok (.iload_n 2, 1) := by decide +kernel
theorem dX3_alikeInTime_26 : decode cX3_alikeInTime 26 = .ok (.iaload, 1) := by decide +kernel
theorem dX3_alikeInTime_27 : decode cX3_alikeInTime 27 = .ok (.if_icmp .ne 7, 3) := by decide +kernel
theorem dX3_alikeInTime_30 : decode cX3_alikeInTime 30 = .ok (.iconst 1, 1) := by decide +kernel
theorem dX3_alikeInTime_31 : decode cX3_alikeInTime 31 = .ok (.goto 4, 3) := by decide +kernel
theorem dX3_alikeInTime_34 : decode cX3_alikeInTime 34 = .ok (.iconst 0, 1) := by decide +kernel
theorem dX3_alikeInTime_35 : decode cX3_alikeInTime 35 = .ok (.ireturn, 1) := by decide +kernel
theorem dX3_waitFor_0 : decode cX3_waitFor 0 = .ok (.aload_n 0, 1) := by decide +kernel
theorem dX3_waitFor_1 : decode cX3_waitFor 1 = .ok (.getfield 18, 3) := by decide +kernel
theorem dX3_waitFor_4 : decode cX3_waitFor 4 = .ok (.iload_n 1, 1) := by decide +kernel
theorem dX3_waitFor_5 : decode cX3_waitFor 5 = .ok (.iaload, 1) := by decide +kernel
theorem dX3_waitFor_6 : decode cX3_waitFor 6 = .ok (.istore_n 3, 1) := by decide +kernel
theorem dX3_waitFor_7 : decode cX3_waitFor 7 = .ok (.iload_n 3, 1) := by decide +kernel
theorem dX3_waitFor_8 : decode cX3_waitFor 8 = .ok (.iconst 1, 1) := by decide +kernel
theorem dX3_waitFor_9 : decode cX3_waitFor 9 = .ok (.if_icmp .ge 7, 3) := by decide +kernel
theorem dX3_waitFor_12 : decode cX3_waitFor 12 = .ok (.iconst 0, 1) := by decide +kernel
theorem dX3_waitFor_13 : decode cX3_waitFor 13 = .ok (.goto 15, 3) := by decide +kernel
theorem dX3_waitFor_16 : decode cX3_waitFor 16 = .ok (.aload_n 0, 1) := by decide +kernel
theorem dX3_waitFor_17 : decode cX3_waitFor 17 = .ok (.getfield 15, 3) := by decide +kernel
theorem dX3_waitFor_20 : decode cX3_waitFor 20 = .ok (.iload_n 1, 1) := by decide +kernel
theorem dX3_waitFor_21 : decode cX3_waitFor 21 = .ok (.iaload, 1) := by decide +kernel
theorem dX3_waitFor_22 : decode cX3_waitFor 22 = .ok (.iload_n 2, 1) := by decide +kernel
theorem dX3_waitFor_23 : decode cX3_waitFor 23 = .ok (.isub, 1) := by decide +kernel
theorem dX3_waitFor_24 : decode cX3_waitFor 24 = .ok (.iload_n 3, 1) := by decide +kernel
theorem dX3_waitFor_25 : decode cX3_waitFor 25 = .ok (.invokestatic 67, 3) := by decide +kernel
theorem dX3_waitFor_28 : decode cX3_waitFor 28 = .ok (.ireturn, 1) := by decide +kernel
theorem dX3_timeOf_0 : decode cX3_timeOf 0 = .ok (.iconst 0, 1) := by decide +kernel
theorem dX3_timeOf_1 : decode cX3_timeOf 1 = .ok (.istore_n 2, 1) := by decide +kernel
theorem dX3_timeOf_2 : decode cX3_timeOf 2 = .ok (.iconst 0, 1) := by decide +kernel
theorem dX3_timeOf_3 : decode cX3_timeOf 3 = .ok (.istore_n 3, 1) := by decide +kernel
theorem dX3_timeOf_4 : decode cX3_timeOf 4 = .ok (.iload_n 3, 1) := by decide +kernel
theorem dX3_timeOf_5 : decode cX3_timeOf 5 = .ok (.aload_n 1, 1) := by decide +kernel
theorem dX3_timeOf_6 : decode cX3_timeOf 6 = .ok (.getfield 73, 3) := by decide +kernel
theorem dX3_timeOf_9 : decode cX3_timeOf 9 = .ok (.if_icmp .ge 73, 3) := by decide +kernel
theorem dX3_timeOf_12 : decode cX3_timeOf 12 = .ok (.iload_n 3, 1) := by decide +kernel
theorem dX3_timeOf_13 : decode cX3_timeOf 13 = .ok (.sipush 2000, 3) := by decide +kernel
theorem dX3_timeOf_16 : decode cX3_timeOf 16 = .ok (.if_icmp .ge 66, 3) := by decide +kernel
theorem dX3_timeOf_19 : decode cX3_timeOf 19 = .ok (.aload_n 1, 1) := by decide +kernel
theorem dX3_timeOf_20 : decode cX3_timeOf 20 = .ok (.getfield 78, 3) := by decide +kernel
theorem dX3_timeOf_23 : decode cX3_timeOf 23 = .ok (.iload_n 3, 1) := by decide +kernel
theorem dX3_timeOf_24 : decode cX3_timeOf 24 = .ok (.iaload, 1) := by decide +kernel
theorem dX3_timeOf_25 : decode cX3_timeOf 25 = .ok (.istore 4, 2) := by decide +kernel
theorem dX3_timeOf_27 : decode cX3_timeOf 27 = .ok (.iload_n 2, 1) := by decide +kernel
theorem dX3_timeOf_28 : decode cX3_timeOf 28 = .ok (.aload_n 0, 1) := by decide +kernel
theorem dX3_timeOf_29 : decode cX3_timeOf 29 = .ok (.iload 4, 2) := by decide +kernel
theorem dX3_timeOf_31 : decode cX3_timeOf 31 = .ok (.invokestatic 81, 3) := by decide +kernel
theorem dX3_timeOf_34 : decode cX3_timeOf 34 = .ok (.iload_n 2, 1) := by decide +kernel
theorem dX3_timeOf_35 : decode cX3_timeOf 35 = .ok (.invokevirtual 84, 3) := by decide +kernel
theorem dX3_timeOf_38 : decode cX3_timeOf 38 = .ok (.iconst 1, 1) := by decide +kernel
theorem dX3_timeOf_39 : decode cX3_timeOf 39 = .ok (.iadd, 1) := by decide +kernel
theorem dX3_timeOf_40 : decode cX3_timeOf 40 = .ok (.iadd, 1) := by decide +kernel
theorem dX3_timeOf_41 : decode cX3_timeOf 41 = .ok (.istore_n 2, 1) := by decide +kernel
theorem dX3_timeOf_42 : decode cX3_timeOf 42 = .ok (.iload 4, 2) := by decide +kernel
theorem dX3_timeOf_44 : decode cX3_timeOf 44 = .ok (.invokestatic 87, 3) := by decide +kernel
theorem dX3_timeOf_47 : decode cX3_timeOf 47 = .ok (.istore 5, 2) := by decide +kernel
theorem dX3_timeOf_49 : decode cX3_timeOf 49 = .ok (.iload 5, 2) := by decide +kernel
theorem dX3_timeOf_51 : decode cX3_timeOf 51 = .ok (.bipush 63, 2) := by decide +kernel
theorem dX3_timeOf_53 : decode cX3_timeOf 53 = .ok (.if_icmp .eq 15, 3) := by decide +kernel
theorem dX3_timeOf_56 : decode cX3_timeOf 56 = .ok (.iload_n 2, 1) := by decide +kernel
theorem dX3_timeOf_57 : decode cX3_timeOf 57 = .ok (.aload_n 0, 1) := by decide +kernel
theorem dX3_timeOf_58 : decode cX3_timeOf 58 = .ok (.iload 5, 2) := by decide +kernel
theorem dX3_timeOf_60 : decode cX3_timeOf 60 = .ok (.iload_n 2, 1) := by decide +kernel
theorem dX3_timeOf_61 : decode cX3_timeOf 61 = .ok (.invokevirtual 84, 3) := by decide +kernel
theorem dX3_timeOf_64 : decode cX3_timeOf 64 = .ok (.iconst 1, 1) := by decide +kernel
theorem dX3_timeOf_65 : decode cX3_timeOf 65 = .ok (.iadd, 1) := by decide +kernel
theorem dX3_timeOf_66 : decode cX3_timeOf 66 = .ok (.iadd, 1) := by decide +kernel
theorem dX3_timeOf_67 : decode cX3_timeOf 67 = .ok (.istore_n 2, 1) := by decide +kernel
theorem dX3_timeOf_68 : decode cX3_timeOf 68 = .ok (.iload_n 2, 1) := by decide +kernel
theorem dX3_timeOf_69 : decode cX3_timeOf 69 = .ok (.iload 4, 2) := by decide +kernel
theorem dX3_timeOf_71 : decode cX3_timeOf 71 = .ok (.invokestatic 90, 3) := by decide +kernel
theorem dX3_timeOf_74 : decode cX3_timeOf 74 = .ok (.iadd, 1) := by decide +kernel
theorem dX3_timeOf_75 : decode cX3_timeOf 75 = .ok (.istore_n 2, 1) := by decide +kernel
theorem dX3_timeOf_76 : decode cX3_timeOf 76 = .ok (.iinc 3 1, 3) := by decide +kernel
theorem dX3_timeOf_79 : decode cX3_timeOf 79 = .ok (.goto (-75), 3) := by decide +kernel
theorem dX3_timeOf_82 : decode cX3_timeOf 82 = .ok (.iload_n 2, 1) := by decide +kernel
theorem dX3_timeOf_83 : decode cX3_timeOf 83 = .ok (.ireturn, 1) := by decide +kernel
theorem dX3_store_0 : decode cX3_store 0 = .ok (.aload_n 0, 1) := by decide +kernel
theorem dX3_store_1 : decode cX3_store 1 = .ok (.getfield 11, 3) := by decide +kernel
theorem dX3_store_4 : decode cX3_store 4 = .ok (.iconst 0, 1) := by decide +kernel
theorem dX3_store_5 : decode cX3_store 5 = .ok (.aload_n 0, 1) := by decide +kernel
theorem dX3_store_6 : decode cX3_store 6 = .ok (.getfield 30, 3) := by decide +kernel
theorem dX3_store_9 : decode cX3_store 9 = .ok (.iload_n 1, 1) := by decide +kernel
theorem dX3_store_10 : decode cX3_store 10 = .ok (.aaload, 1) := by decide +kernel
theorem dX3_store_11 : decode cX3_store 11 = .ok (.iconst 0, 1) := by decide +kernel
theorem dX3_store_12 : decode cX3_store 12 = .ok (.bipush 40, 2) := by decide +kernel
theorem dX3_store_14 : decode cX3_store 14 = .ok (.invokestatic 93, 3) := by decide +kernel
theorem dX3_store_17 : decode cX3_store 17 = .ok (.aload_n 0, 1) := by decide +kernel
theorem dX3_store_18 : decode cX3_store 18 = .ok (.getfield 33, 3) := by decide +kernel
theorem dX3_store_21 : decode cX3_store 21 = .ok (.iload_n 1, 1) := by decide +kernel
theorem dX3_store_22 : decode cX3_store 22 = .ok (.iconst 1, 1) := by decide +kernel
theorem dX3_store_23 : decode cX3_store 23 = .ok (.bastore, 1) := by decide +kernel
theorem dX3_store_24 : decode cX3_store 24 = .ok (.return_, 1) := by decide +kernel
theorem dX3_canRecall_0 : decode cX3_canRecall 0 = .ok (.aload_n 0, 1) := by decide +kernel
theorem dX3_canRecall_1 : decode cX3_canRecall 1 = .ok (.getfield 33, 3) := by decide +kernel
theorem dX3_canRecall_4 : decode cX3_canRecall 4 = .ok (.iload_n 1, 1) := by decide +kernel
theorem dX3_canRecall_5 : decode cX3_canRecall 5 = .ok (.baload, 1) := by decide +kernel
theorem dX3_canRecall_6 : decode cX3_canRecall 6 = .ok (.ifCond .ne 5, 3) := by decide +kernel
theorem dX3_canRecall_9 : decode cX3_canRecall 9 = .ok (.iconst 0, 1) := by decide +kernel
theorem dX3_canRecall_10 : decode cX3_canRecall 10 = .ok (.ireturn, 1) := by decide +kernel
theorem dX3_canRecall_11 : decode cX3_canRecall 11 = .ok (.iconst 0, 1) := by decide +kernel
theorem dX3_canRecall_12 : decode cX3_canRecall 12 = .ok (.istore_n 2, 1) := by decide +kernel
theorem dX3_canRecall_13 : decode cX3_canRecall 13 = .ok (.iload_n 2, 1) := by decide +kernel
theorem dX3_canRecall_14 : decode cX3_canRecall 14 = .ok (.aload_n 0, 1) := by decide +kernel
theorem dX3_canRecall_15 : decode cX3_canRecall 15 = .ok (.getfield 46, 3) := by decide +kernel
theorem dX3_canRecall_18 : decode cX3_canRecall 18 = .ok (.if_icmp .ge 46, 3) := by decide +kernel
theorem dX3_canRecall_21 : decode cX3_canRecall 21 = .ok (.iload_n 2, 1) := by decide +kernel
theorem dX3_canRecall_22 : decode cX3_canRecall 22 = .ok (.bipush 40, 2) := by decide +kernel
theorem dX3_canRecall_24 : decode cX3_canRecall 24 = .ok (.if_icmp .ge 40, 3) := by decide +kernel
theorem dX3_canRecall_27 : decode cX3_canRecall 27 = .ok (.aload_n 0, 1) := by decide +kernel
theorem dX3_canRecall_28 : decode cX3_canRecall 28 = .ok (.getfield 30, 3) := by decide +kernel
theorem dX3_canRecall_31 : decode cX3_canRecall 31 = .ok (.iload_n 1, 1) := by decide +kernel
theorem dX3_canRecall_32 : decode cX3_canRecall 32 = .ok (.aaload, 1) := by decide +kernel
theorem dX3_canRecall_33 : decode cX3_canRecall 33 = .ok (.iload_n 2, 1) := by decide +kernel
theorem dX3_canRecall_34 : decode cX3_canRecall 34 = .ok (.iaload, 1) := by decide +kernel
theorem dX3_canRecall_35 : decode cX3_canRecall 35 = .ok (.istore_n 3, 1) := by decide +kernel
theorem dX3_canRecall_36 : decode cX3_canRecall 36 = .ok (.iload_n 3, 1) := by decide +kernel
theorem dX3_canRecall_37 : decode cX3_canRecall 37 = .ok (.ifCond .lt 19, 3) := by decide +kernel
theorem dX3_canRecall_40 : decode cX3_canRecall 40 = .ok (.iload_n 3, 1) := by decide +kernel
theorem dX3_canRecall_41 : decode cX3_canRecall 41 = .ok (.sipush 128, 3) := by decide +kernel
theorem dX3_canRecall_44 : decode cX3_canRecall 44 = .ok (.if_icmp .ge 12, 3) := by decide +kernel
theorem dX3_canRecall_47 : decode cX3_canRecall 47 = .ok (.aload_n 0, 1) := by decide +kernel
theorem dX3_canRecall_48 : decode cX3_canRecall 48 = .ok (.getfield 24, 3) := by decide +kernel
theorem dX3_canRecall_51 : decode cX3_canRecall 51 = .ok (.iload_n 3, 1) := by decide +kernel
theorem dX3_canRecall_52 : decode cX3_canRecall 52 = .ok (.baload, 1) := by decide +kernel
theorem dX3_canRecall_53 : decode cX3_canRecall 53 = .ok (.ifCond .eq 5, 3) := by decide +kernel
theorem dX3_canRecall_56 : decode cX3_canRecall 56 = .ok (.iconst 0, 1) := by decide +kernel
theorem dX3_canRecall_57 : decode cX3_canRecall 57 = .ok (.ireturn, 1) := by decide +kernel
theorem dX3_canRecall_58 : decode cX3_canRecall 58 = .ok (.iinc 2 1, 3) := by decide +kernel
theorem dX3_canRecall_61 : decode cX3_canRecall 61 = .ok (.goto (-48), 3) := by decide +kernel
theorem dX3_canRecall_64 : decode cX3_canRecall 64 = .ok (.iconst 1, 1) := by decide +kernel
theorem dX3_canRecall_65 : decode cX3_canRecall 65 = .ok (.ireturn, 1) := by decide +kernel
theorem dX3_recall_0 : decode cX3_recall 0 = .ok (.aload_n 0, 1) := by decide +kernel
theorem dX3_recall_1 : decode cX3_recall 1 = .ok (.getfield 21, 3) := by decide +kernel
theorem dX3_recall_4 : decode cX3_recall 4 = .ok (.iconst (-1), 1) := by decide +kernel
theorem dX3_recall_5 : decode cX3_recall 5 = .ok (.invokestatic 40, 3) := by decide +kernel
theorem dX3_recall_8 : decode cX3_recall 8 = .ok (.iconst 0, 1) := by decide +kernel
theorem dX3_recall_9 : decode cX3_recall 9 = .ok (.istore_n 2, 1) := by decide +kernel
theorem dX3_recall_10 : decode cX3_recall 10 = .ok (.iload_n 2, 1) := by decide +kernel
theorem dX3_recall_11 : decode cX3_recall 11 = .ok (.aload_n 0, 1) := by decide +kernel
theorem dX3_recall_12 : decode cX3_recall 12 = .ok (.getfield 46, 3) := by decide +kernel
theorem dX3_recall_15 : decode cX3_recall 15 = .ok (.if_icmp .ge 28, 3) := by decide +kernel
theorem dX3_recall_18 : decode cX3_recall 18 = .ok (.iload_n 2, 1) := by decide +kernel
theorem dX3_recall_19 : decode cX3_recall 19 = .ok (.bipush 40, 2) := by decide +kernel
theorem dX3_recall_21 : decode cX3_recall 21 = .ok (.if_icmp .ge 22, 3) := by decide +kernel
theorem dX3_recall_24 : decode cX3_recall 24 = .ok (.aload_n 0, 1) := by decide +kernel
theorem dX3_recall_25 : decode cX3_recall 25 = .ok (.iload_n 2, 1) := by decide +kernel
theorem dX3_recall_26 : decode cX3_recall 26 = .ok (.aload_n 0, 1) := by decide +kernel
theorem dX3_recall_27 : decode cX3_recall 27 = .ok (.getfield 30, 3) := by decide +kernel
theorem dX3_recall_30 : decode cX3_recall 30 = .ok (.iload_n 1, 1) := by decide +kernel
theorem dX3_recall_31 : decode cX3_recall 31 = .ok (.aaload, 1) := by decide +kernel
theorem dX3_recall_32 : decode cX3_recall 32 = .ok (.iload_n 2, 1) := by decide +kernel
theorem dX3_recall_33 : decode cX3_recall 33 = .ok (.iaload, 1) := by decide +kernel
theorem dX3_recall_34 : decode cX3_recall 34 = .ok (.invokevirtual 56, 3) := by decide +kernel
theorem dX3_recall_37 : decode cX3_recall 37 = .ok (.iinc 2 1, 3) := by decide +kernel
theorem dX3_recall_40 : decode cX3_recall 40 = .ok (.goto (-30), 3) := by decide +kernel
theorem dX3_recall_43 : decode cX3_recall 43 = .ok (.return_, 1) := by decide +kernel
theorem dX4_init_0 : decode cX4_init 0 = .ok (.aload_n 0, 1) := by decide +kernel
theorem dX4_init_1 : decode cX4_init 1 = .ok (.invokespecial 3, 3) := by decide +kernel
theorem dX4_init_4 : decode cX4_init 4 = .ok (.aload_n 0, 1) := by decide +kernel
theorem dX4_init_5 : decode cX4_init 5 = .ok (.bipush 8, 2) := by decide +kernel
theorem dX4_init_7 : decode cX4_init 7 = .ok (.newarray .int, 2) := by decide +kernel
theorem dX4_init_9 : decode cX4_init 9 = .ok (.putfield 11, 3) := by decide +kernel
theorem dX4_init_12 : decode cX4_init 12 = .ok (.aload_n 0, 1) := by decide +kernel
theorem dX4_init_13 : decode cX4_init 13 = .ok (.bipush 8, 2) := by decide +kernel
theorem dX4_init_15 : decode cX4_init 15 = .ok (.newarray .int, 2) := by decide +kernel
theorem dX4_init_17 : decode cX4_init 17 = .ok (.putfield 15, 3) := by decide +kernel
theorem dX4_init_20 : decode cX4_init 20 = .ok (.aload_n 0, 1) := by decide +kernel
theorem dX4_init_21 : decode cX4_init 21 = .ok (.bipush 8, 2) := by decide +kernel
theorem dX4_init_23 : decode cX4_init 23 = .ok (.newarray .int, 2) := by decide +kernel
theorem dX4_init_25 : decode cX4_init 25 = .ok (.putfield 18, 3) := by decide +kernel
theorem dX4_init_28 : decode cX4_init 28 = .ok (.return_, 1) := by decide +kernel
theorem dX4_append_0 : decode cX4_append 0 = .ok (.aload_n 0, 1) := by decide +kernel
theorem dX4_append_1 : decode cX4_append 1 = .ok (.getfield 21, 3) := by decide +kernel
theorem dX4_append_4 : decode cX4_append 4 = .ok (.ifCond .lt 12, 3) := by decide +kernel
theorem dX4_append_7 : decode cX4_append 7 = .ok (.aload_n 0, 1) := by decide +kernel
theorem dX4_append_8 : decode cX4_append 8 = .ok (.getfield 21, 3) := by decide +kernel
theorem dX4_append_11 : decode cX4_append 11 = .ok (.bipush 8, 2) := by decide +kernel
theorem dX4_append_13 : decode cX4_append 13 = .ok (.if_icmp .lt 6, 3) := by decide +kernel
theorem dX4_append_16 : decode cX4_append 16 = .ok (.bipush (-3), 2) := by decide +kernel
theorem dX4_append_18 : decode cX4_append 18 = .ok (.ireturn, 1) := by decide +kernel
theorem dX4_append_19 : decode cX4_append 19 = .ok (.aload_n 0, 1) := by decide +kernel
theorem dX4_append_20 : decode cX4_append 20 = .ok (.getfield 11, 3) := by decide +kernel
theorem dX4_append_23 : decode cX4_append 23 = .ok (.aload_n 0, 1) := by decide +kernel
theorem dX4_append_24 : decode cX4_append 24 = .ok (.getfield 21, 3) := by decide +kernel
theorem dX4_append_27 : decode cX4_append 27 = .ok (.iload_n 1, 1) := by decide +kernel
theorem dX4_append_28 : decode cX4_append 28 = .ok (.iastore, 1) := by decide +kernel
theorem dX4_append_29 : decode cX4_append 29 = .ok (.aload_n 0, 1) := by decide +kernel
theorem dX4_append_30 : decode cX4_append 30 = .ok (.getfield 15, 3) := by decide +kernel
theorem dX4_append_33 : decode cX4_append 33 = .ok (.aload_n 0, 1) := by decide +kernel
theorem dX4_append_34 : decode cX4_append 34 = .ok (.getfield 21, 3) := by decide +kernel
theorem dX4_append_37 : decode cX4_append 37 = .ok (.iload_n 2, 1) := by decide +kernel
theorem dX4_append_38 : decode cX4_append 38 = .ok (.iastore, 1) := by decide +kernel
theorem dX4_append_39 : decode cX4_append 39 = .ok (.aload_n 0, 1) := by decide +kernel
theorem dX4_append_40 : decode cX4_append 40 = .ok (.getfield 21, 3) := by decide +kernel
theorem dX4_append_43 : decode cX4_append 43 = .ok (.istore_n 3, 1) := by decide +kernel
theorem dX4_append_44 : decode cX4_append 44 = .ok (.iload_n 3, 1) := by decide +kernel
theorem dX4_append_45 : decode cX4_append 45 = .ok (.ifCond .le 40, 3) := by decide +kernel
theorem dX4_append_48 : decode cX4_append 48 = .ok (.aload_n 0, 1) := by decide +kernel
theorem dX4_append_49 : decode cX4_append 49 = .ok (.getfield 15, 3) := by decide +kernel
theorem dX4_append_52 : decode cX4_append 52 = .ok (.aload_n 0, 1) := by decide +kernel
theorem dX4_append_53 : decode cX4_append 53 = .ok (.getfield 18, 3) := by decide +kernel
theorem dX4_append_56 : decode cX4_append 56 = .ok (.iload_n 3, 1) := by decide +kernel
theorem dX4_append_57 : decode cX4_append 57 = .ok (.iconst 1, 1) := by decide +kernel
theorem dX4_append_58 : decode cX4_append 58 = .ok (.isub, 1) := by decide +kernel
theorem dX4_append_59 : decode cX4_append 59 = .ok (.iaload, 1) := by decide +kernel
theorem dX4_append_60 : decode cX4_append 60 = .ok (.iaload, 1) := by decide +kernel
theorem dX4_append_61 : decode cX4_append 61 = .ok (.iload_n 2, 1) := by decide +kernel
theorem dX4_append_62 : decode cX4_append 62 = .ok (.if_icmp .le 23, 3) := by decide +kernel
theorem dX4_append_65 : decode cX4_append 65 = .ok (.aload_n 0, 1) := by decide +kernel
theorem dX4_append_66 : decode cX4_append 66 = .ok (.getfield 18, 3) := by decide +kernel
theorem dX4_append_69 : decode cX4_append 69 = .ok (.iload_n 3, 1) := by decide +kernel
theorem dX4_append_70 : decode cX4_append 70 = .ok (.aload_n 0, 1) := by decide +kernel
theorem dX4_append_71 : decode cX4_append 71 = .ok (.getfield 18, 3) := by decide +kernel
theorem dX4_append_74 : decode cX4_append 74 = .ok (.iload_n 3, 1) := by decide +kernel
theorem dX4_append_75 : decode cX4_append 75 = .ok (.iconst 1, 1) := by decide +kernel
theorem dX4_append_76 : decode cX4_append 76 = .ok (.isub, 1) := by decide +kernel
theorem dX4_append_77 : decode cX4_append 77 = .ok (.iaload, 1) := by decide +kernel
theorem dX4_append_78 : decode cX4_append 78 = .ok (.iastore, 1) := by decide +kernel
theorem dX4_append_79 : decode cX4_append 79 = .ok (.iinc 3 (-1), 3) := by decide +kernel
theorem dX4_append_82 : decode cX4_append 82 = .ok (.goto (-38), 3) := by decide +kernel
theorem dX4_append_85 : decode cX4_append 85 = .ok (.aload_n 0, 1) := by decide +kernel
theorem dX4_append_86 : decode cX4_append 86 = .ok (.getfield 18, 3) := by decide +kernel
theorem dX4_append_89 : decode cX4_append 89 = .ok (.iload_n 3, 1) := by decide +kernel
theorem dX4_append_90 : decode cX4_append 90 = .ok (.aload_n 0, 1) := by decide +kernel
theorem dX4_append_91 : decode cX4_append 91 = .ok (.getfield 21, 3) := by decide +kernel
theorem dX4_append_94 : decode cX4_append 94 = .ok (.iastore, 1) := by decide +kernel
theorem dX4_append_95 : decode cX4_append 95 = .ok (.aload_n 0, 1) := by decide +kernel
theorem dX4_append_96 : decode cX4_append 96 = .ok (.dup, 1) := by decide +kernel
theorem dX4_append_97 : decode cX4_append 97 = .ok (.getfield 21, 3) := by decide +kernel
theorem dX4_append_100 : decode cX4_append 100 = .ok (.iconst 1, 1) := by decide +kernel
theorem dX4_append_101 : decode cX4_append 101 = .ok (.iadd, 1) := by decide +kernel
theorem dX4_append_102 : decode cX4_append 102 = .ok (.putfield 21, 3) := by decide +kernel
theorem dX4_append_105 : decode cX4_append 105 = .ok (.aload_n 0, 1) := by decide +kernel
theorem dX4_append_106 : decode cX4_append 106 = .ok (.getfield 21, 3) := by decide +kernel
theorem dX4_append_109 : decode cX4_append 109 = .ok (.iconst 1, 1) := by decide +kernel
theorem dX4_append_110 : decode cX4_append 110 = .ok (.isub, 1) := by decide +kernel
theorem dX4_append_111 : decode cX4_append 111 = .ok (.ireturn, 1) := by decide +kernel
theorem dX4_bestSet_0 : decode cX4_bestSet 0 = .ok (.iconst 0, 1) := by decide +kernel
theorem dX4_bestSet_1 : decode cX4_bestSet 1 = .ok (.istore_n 1, 1) := by decide +kernel
theorem dX4_bestSet_2 : decode cX4_bestSet 2 = .ok (.iconst 0, 1) := by decide +kernel
theorem dX4_bestSet_3 : decode cX4_bestSet 3 = .ok (.istore_n 2, 1) := by decide +kernel
theorem dX4_bestSet_4 : decode cX4_bestSet 4 = .ok (.iconst 0, 1) := by decide +kernel
theorem dX4_bestSet_5 : decode cX4_bestSet 5 = .ok (.istore_n 3, 1) := by decide +kernel
theorem dX4_bestSet_6 : decode cX4_bestSet 6 = .ok (.iconst 1, 1) := by decide +kernel
theorem dX4_bestSet_7 : decode cX4_bestSet 7 = .ok (.aload_n 0, 1) := by decide +kernel
theorem dX4_bestSet_8 : decode cX4_bestSet 8 = .ok (.getfield 21, 3) := by decide +kernel
theorem dX4_bestSet_11 : decode cX4_bestSet 11 = .ok (.bipush 8, 2) := by decide +kernel
theorem dX4_bestSet_13 : decode cX4_bestSet 13 = .ok (.invokestatic 25, 3) := by decide +kernel
theorem dX4_bestSet_16 : decode cX4_bestSet 16 = .ok (.ishl, 1) := by decide +kernel
theorem dX4_bestSet_17 : decode cX4_bestSet 17 = .ok (.istore 4, 2) := by decide +kernel
theorem dX4_bestSet_19 : decode cX4_bestSet 19 = .ok (.iconst 1, 1) := by decide +kernel
theorem dX4_bestSet_20 : decode cX4_bestSet 20 = .ok (.istore 5, 2) := by decide +kernel
theorem dX4_bestSet_22 : decode cX4_bestSet 22 = .ok (.iload 5, 2) := by decide +kernel
theorem dX4_bestSet_24 : decode cX4_bestSet 24 = .ok (.iload 4, 2) := by decide +kernel
theorem dX4_bestSet_26 : decode cX4_bestSet 26 = .ok (.if_icmp .ge 61, 3) := by decide +kernel
theorem dX4_bestSet_29 : decode cX4_bestSet 29 = .ok (.iload 5, 2) := by decide +kernel
theorem dX4_bestSet_31 : decode cX4_bestSet 31 = .ok (.invokestatic 31, 3) := by decide +kernel
theorem dX4_bestSet_34 : decode cX4_bestSet 34 = .ok (.istore 6, 2) := by decide +kernel
theorem dX4_bestSet_36 : decode cX4_bestSet 36 = .ok (.iload 6, 2) := by decide +kernel
theorem dX4_bestSet_38 : decode cX4_bestSet 38 = .ok (.iload_n 2, 1) := by decide +kernel
theorem dX4_bestSet_39 : decode cX4_bestSet 39 = .ok (.if_icmp .ge 7, 3) := by decide +kernel
theorem dX4_bestSet_42 : decode cX4_bestSet 42 = .ok (.iconst (-1), 1) := by decide +kernel
theorem dX4_bestSet_43 : decode cX4_bestSet 43 = .ok (.goto 9, 3) := by decide +kernel
theorem dX4_bestSet_46 : decode cX4_bestSet 46 = .ok (.aload_n 0, 1) := by decide +kernel
theorem dX4_bestSet_47 : decode cX4_bestSet 47 = .ok (.iload 5, 2) := by decide +kernel
theorem dX4_bestSet_49 : decode cX4_bestSet 49 = .ok (.invokevirtual 37, 3) := by decide +kernel
theorem dX4_bestSet_52 : decode cX4_bestSet 52 = .ok (.istore 7, 2) := by decide +kernel
theorem dX4_bestSet_54 : decode cX4_bestSet 54 = .ok (.iload 7, 2) := by decide +kernel
theorem dX4_bestSet_56 : decode cX4_bestSet 56 = .ok (.iconst (-1), 1) := by decide +kernel
theorem dX4_bestSet_57 : decode cX4_bestSet 57 = .ok (.if_icmp .eq 24, 3) := by decide +kernel
theorem dX4_bestSet_60 : decode cX4_bestSet 60 = .ok (.iload 6, 2) := by decide +kernel
theorem dX4_bestSet_62 : decode cX4_bestSet 62 = .ok (.iload_n 2, 1) := by decide +kernel
theorem dX4_bestSet_63 : decode cX4_bestSet 63 = .ok (.if_icmp .gt 9, 3) := by decide +kernel
theorem dX4_bestSet_66 : decode cX4_bestSet 66 = .ok (.iload 7, 2) := by decide +kernel
theorem dX4_bestSet_68 : decode cX4_bestSet 68 = .ok (.iload_n 3, 1) := by decide +kernel
theorem dX4_bestSet_69 : decode cX4_bestSet 69 = .ok (.if_icmp .ge 12, 3) := by decide +kernel
theorem dX4_bestSet_72 : decode cX4_bestSet 72 = .ok (.iload 5, 2) := by decide +kernel
theorem dX4_bestSet_74 : decode cX4_bestSet 74 = .ok (.istore_n 1, 1) := by decide +kernel
theorem dX4_bestSet_75 : decode cX4_bestSet 75 = .ok (.iload 6, 2) := by decide +kernel
theorem dX4_bestSet_77 : decode cX4_bestSet 77 = .ok (.istore_n 2, 1) := by decide +kernel
theorem dX4_bestSet_78 : decode cX4_bestSet 78 = .ok (.iload 7, 2) := by decide +kernel
theorem dX4_bestSet_80 : decode cX4_bestSet 80 = .ok (.istore_n 3, 1) := by decide +kernel
theorem dX4_bestSet_81 : decode cX4_bestSet 81 = .ok (.iinc 5 1, 3) := by decide +kernel
theorem dX4_bestSet_84 : decode cX4_bestSet 84 = .ok (.goto (-62), 3) := by decide +kernel
theorem dX4_bestSet_87 : decode cX4_bestSet 87 = .ok (.iload_n 1, 1) := by decide +kernel
theorem dX4_bestSet_88 : decode cX4_bestSet 88 = .ok (.ireturn, 1) := by decide +kernel
theorem dX4_timeIfDone_0 : decode cX4_timeIfDone 0 = .ok (.iconst 0, 1) := by decide +kernel
theorem dX4_timeIfDone_1 : decode cX4_timeIfDone 1 = .ok (.istore_n 2, 1) := by decide +kernel
theorem dX4_timeIfDone_2 : decode cX4_timeIfDone 2 = .ok (.iconst 0, 1) := by decide +kernel
theorem dX4_timeIfDone_3 : decode cX4_timeIfDone 3 = .ok (.istore_n 3, 1) := by decide +kernel
theorem dX4_timeIfDone_4 : decode cX4_timeIfDone 4 = .ok (.iload_n 3, 1) := by decide +kernel
theorem dX4_timeIfDone_5 : decode cX4_timeIfDone 5 = .ok (.aload_n 0, 1) := by decide +kernel
theorem dX4_timeIfDone_6 : decode cX4_timeIfDone 6 = .ok (.getfield 21, 3) := by decide +kernel
theorem dX4_timeIfDone_9 : decode cX4_timeIfDone 9 = .ok (.if_icmp .ge 58, 3) := by decide +kernel
theorem dX4_timeIfDone_12 : decode cX4_timeIfDone 12 = .ok (.iload_n 3, 1) := by decide +kernel
theorem dX4_timeIfDone_13 : decode cX4_timeIfDone 13 = .ok (.bipush 8, 2) := by decide +kernel
theorem dX4_timeIfDone_15 : decode cX4_timeIfDone 15 = .ok (.if_icmp .ge 52, 3) := by decide +kernel
theorem dX4_timeIfDone_18 : decode cX4_timeIfDone 18 = .ok (.aload_n 0, 1) := by decide +kernel
theorem dX4_timeIfDone_19 : decode cX4_timeIfDone 19 = .ok (.getfield 18, 3) := by decide +kernel
theorem dX4_timeIfDone_22 : decode cX4_timeIfDone 22 = .ok (.iload_n 3, 1) := by decide +kernel
theorem dX4_timeIfDone_23 : decode cX4_timeIfDone 23 = .ok (.iaload, 1) := by decide +kernel
theorem dX4_timeIfDone_24 : decode cX4_timeIfDone 24 = .ok (.istore 4, 2) := by decide +kernel
theorem dX4_timeIfDone_26 : decode cX4_timeIfDone 26 = .ok (.iload_n 1, 1) := by decide +kernel
theorem dX4_timeIfDone_27 : decode cX4_timeIfDone 27 = .ok (.iload 4, 2) := by decide +kernel
theorem dX4_timeIfDone_29 : decode cX4_timeIfDone 29 = .ok (.ishr, 1) := by decide +kernel
theorem dX4_timeIfDone_30 : decode cX4_timeIfDone 30 = .ok (.iconst 1, 1) := by decide +kernel
theorem dX4_timeIfDone_31 : decode cX4_timeIfDone 31 = .ok (.iand, 1) := by decide +kernel
theorem dX4_timeIfDone_32 : decode cX4_timeIfDone 32 = .ok (.ifCond .ne 6, 3) := by decide +kernel
theorem dX4_timeIfDone_35 : decode cX4_timeIfDone 35 = .ok (.goto 26, 3) := by decide +kernel
theorem dX4_timeIfDone_38 : decode cX4_timeIfDone 38 = .ok (.iload_n 2, 1) := by decide +kernel
theorem dX4_timeIfDone_39 : decode cX4_timeIfDone 39 = .ok (.aload_n 0, 1) := by decide +kernel
theorem dX4_timeIfDone_40 : decode cX4_timeIfDone 40 = .ok (.getfield 11, 3) := by decide +kernel
theorem dX4_timeIfDone_43 : decode cX4_timeIfDone 43 = .ok (.iload 4, 2) := by decide +kernel
theorem dX4_timeIfDone_45 : decode cX4_timeIfDone 45 = .ok (.iaload, 1) := by decide +kernel
theorem dX4_timeIfDone_46 : decode cX4_timeIfDone 46 = .ok (.iadd, 1) := by decide +kernel
theorem dX4_timeIfDone_47 : decode cX4_timeIfDone 47 = .ok (.istore_n 2, 1) := by decide +kernel
theorem dX4_timeIfDone_48 : decode cX4_timeIfDone 48 = .ok (.iload_n 2, 1) := by decide +kernel
theorem dX4_timeIfDone_49 : decode cX4_timeIfDone 49 = .ok (.aload_n 0, 1) := by decide +kernel
theorem dX4_timeIfDone_50 : decode cX4_timeIfDone 50 = .ok (.getfield 15, 3) := by decide +kernel
theorem dX4_timeIfDone_53 : decode cX4_timeIfDone 53 = .ok (.iload 4, 2) := by decide +kernel
theorem dX4_timeIfDone_55 : decode cX4_timeIfDone 55 = .ok (.iaload, 1) := by decide +kernel
theorem dX4_timeIfDone_56 : decode cX4_timeIfDone 56 = .ok (.if_icmp .le 5, 3) := by decide +kernel
theorem dX4_timeIfDone_59 : decode cX4_timeIfDone 59 = .ok (.iconst (-1), 1) := by decide +kernel
theorem dX4_timeIfDone_60 : decode cX4_timeIfDone 60 = .ok (.ireturn, 1) := by decide +kernel
theorem dX4_timeIfDone_61 : decode cX4_timeIfDone 61 = .ok (.iinc 3 1, 3) := by decide +kernel
theorem dX4_timeIfDone_64 : decode cX4_timeIfDone 64 = .ok (.goto (-60), 3) := by decide +kernel
theorem dX4_timeIfDone_67 : decode cX4_timeIfDone 67 = .ok (.iload_n 2, 1) := by decide +kernel
theorem dX4_timeIfDone_68 : decode cX4_timeIfDone 68 = .ok (.ireturn, 1) := by decide +kernel
theorem dX5_init_0 : decode cX5_init 0 = .ok (.aload_n 0, 1) := by decide +kernel
theorem dX5_init_1 : decode cX5_init 1 = .ok (.invokespecial 3, 3) := by decide +kernel
theorem dX5_init_4 : decode cX5_init 4 = .ok (.aload_n 0, 1) := by decide +kernel
theorem dX5_init_5 : decode cX5_init 5 = .ok (.bipush 40, 2) := by decide +kernel
theorem dX5_init_7 : decode cX5_init 7 = .ok (.newarray .int, 2) := by decide +kernel
theorem dX5_init_9 : decode cX5_init 9 = .ok (.putfield 9, 3) := by decide +kernel
theorem dX5_init_12 : decode cX5_init 12 = .ok (.aload_n 0, 1) := by decide +kernel
theorem dX5_init_13 : decode cX5_init 13 = .ok (.bipush 40, 2) := by decide +kernel
theorem dX5_init_15 : decode cX5_init 15 = .ok (.newarray .int, 2) := by decide +kernel
theorem dX5_init_17 : decode cX5_init 17 = .ok (.putfield 15, 3) := by decide +kernel
theorem dX5_init_20 : decode cX5_init 20 = .ok (.aload_n 0, 1) := by decide +kernel
theorem dX5_init_21 : decode cX5_init 21 = .ok (.bipush 40, 2) := by decide +kernel
theorem dX5_init_23 : decode cX5_init 23 = .ok (.newarray .int, 2) := by decide +kernel
theorem dX5_init_25 : decode cX5_init 25 = .ok (.putfield 18, 3) := by decide +kernel
theorem dX5_init_28 : decode cX5_init 28 = .ok (.return_, 1) := by decide +kernel
theorem dX5_clear_0 : decode cX5_clear 0 = .ok (.aload_n 0, 1) := by decide +kernel
theorem dX5_clear_1 : decode cX5_clear 1 = .ok (.iconst 0, 1) := by decide +kernel
theorem dX5_clear_2 : decode cX5_clear 2 = .ok (.putfield 21, 3) := by decide +kernel
theorem dX5_clear_5 : decode cX5_clear 5 = .ok (.aload_n 0, 1) := by decide +kernel
theorem dX5_clear_6 : decode cX5_clear 6 = .ok (.iconst 0, 1) := by decide +kernel
theorem dX5_clear_7 : decode cX5_clear 7 = .ok (.putfield 25, 3) := by decide +kernel
theorem dX5_clear_10 : decode cX5_clear 10 = .ok (.return_, 1) := by decide +kernel
theorem dX5_copyFrom_0 : decode cX5_copyFrom 0 = .ok (.aload_n 0, 1) := by decide +kernel
theorem dX5_copyFrom_1 : decode cX5_copyFrom 1 = .ok (.aload_n 1, 1) := by decide +kernel
theorem dX5_copyFrom_2 : decode cX5_copyFrom 2 = .ok (.getfield 21, 3) := by decide +kernel
theorem dX5_copyFrom_5 : decode cX5_copyFrom 5 = .ok (.putfield 21, 3) := by decide +kernel
theorem dX5_copyFrom_8 : decode cX5_copyFrom 8 = .ok (.aload_n 0, 1) := by decide +kernel
theorem dX5_copyFrom_9 : decode cX5_copyFrom 9 = .ok (.iconst 0, 1) := by decide +kernel
theorem dX5_copyFrom_10 : decode cX5_copyFrom 10 = .ok (.putfield 25, 3) := by decide +kernel
theorem dX5_copyFrom_13 : decode cX5_copyFrom 13 = .ok (.aload_n 1, 1) := by decide +kernel
theorem dX5_copyFrom_14 : decode cX5_copyFrom 14 = .ok (.getfield 9, 3) := by decide +kernel
theorem dX5_copyFrom_17 : decode cX5_copyFrom 17 = .ok (.iconst 0, 1) := by decide +kernel
theorem dX5_copyFrom_18 : decode cX5_copyFrom 18 = .ok (.aload_n 0, 1) := by decide +kernel
theorem dX5_copyFrom_19 : decode cX5_copyFrom 19 = .ok (.getfield 9, 3) := by decide +kernel
theorem dX5_copyFrom_22 : decode cX5_copyFrom 22 = .ok (.iconst 0, 1) := by decide +kernel
theorem dX5_copyFrom_23 : decode cX5_copyFrom 23 = .ok (.bipush 40, 2) := by decide +kernel
theorem dX5_copyFrom_25 : decode cX5_copyFrom 25 = .ok (.invokestatic 28, 3) := by decide +kernel
theorem dX5_copyFrom_28 : decode cX5_copyFrom 28 = .ok (.return_, 1) := by decide +kernel
theorem dX5_has_0 : decode cX5_has 0 = .ok (.iload_n 1, 1) := by decide +kernel
theorem dX5_has_1 : decode cX5_has 1 = .ok (.ifCond .lt 21, 3) := by decide +kernel
theorem dX5_has_4 : decode cX5_has 4 = .ok (.iload_n 1, 1) := by decide +kernel
theorem dX5_has_5 : decode cX5_has 5 = .ok (.aload_n 0, 1) := by decide +kernel
theorem dX5_has_6 : decode cX5_has 6 = .ok (.getfield 21, 3) := by decide +kernel
theorem dX5_has_9 : decode cX5_has 9 = .ok (.if_icmp .ge 13, 3) := by decide +kernel
theorem dX5_has_12 : decode cX5_has 12 = .ok (.iload_n 1, 1) := by decide +kernel
theorem dX5_has_13 : decode cX5_has 13 = .ok (.bipush 40, 2) := by decide +kernel
theorem dX5_has_15 : decode cX5_has 15 = .ok (.if_icmp .ge 7, 3) := by decide +kernel
theorem dX5_has_18 : decode cX5_has 18 = .ok (.iconst 1, 1) := by decide +kernel
theorem dX5_has_19 : decode cX5_has 19 = .ok (.goto 4, 3) := by decide +kernel
theorem dX5_has_22 : decode cX5_has 22 = .ok (.iconst 0, 1) := by decide +kernel
theorem dX5_has_23 : decode cX5_has 23 = .ok (.ireturn, 1) := by decide +kernel
theorem dX5_opOf_0 : decode cX5_opOf 0 = .ok (.iload_n 0, 1) := by decide +kernel
theorem dX5_opOf_1 : decode cX5_opOf 1 = .ok (.sipush 10000, 3) := by decide +kernel
theorem dX5_opOf_4 : decode cX5_opOf 4 = .ok (.idiv, 1) := by decide +kernel
theorem dX5_opOf_5 : decode cX5_opOf 5 = .ok (.ireturn, 1) := by decide +kernel
theorem dX5_wordOf_0 : decode cX5_wordOf 0 = .ok (.iload_n 0, 1) := by decide +kernel
theorem dX5_wordOf_1 : decode cX5_wordOf 1 = .ok (.bipush 100, 2) := by decide +kernel
theorem dX5_wordOf_3 : decode cX5_wordOf 3 = .ok (.idiv, 1) := by decide +kernel
theorem dX5_wordOf_4 : decode cX5_wordOf 4 = .ok (.bipush 100, 2) := by decide +kernel
theorem dX5_wordOf_6 : decode cX5_wordOf 6 = .ok (.irem, 1) := by decide +kernel
theorem dX5_wordOf_7 : decode cX5_wordOf 7 = .ok (.ireturn, 1) := by decide +kernel
theorem dX5_nextOf_0 : decode cX5_nextOf 0 = .ok (.iload_n 0, 1) := by decide +kernel
theorem dX5_nextOf_1 : decode cX5_nextOf 1 = .ok (.bipush 100, 2) := by decide +kernel
theorem dX5_nextOf_3 : decode cX5_nextOf 3 = .ok (.irem, 1) := by decide +kernel
theorem dX5_nextOf_4 : decode cX5_nextOf 4 = .ok (.ireturn, 1) := by decide +kernel
theorem dX5_readsWord_0 : decode cX5_readsWord 0 = .ok (.iload_n 0, 1) := by decide +kernel
theorem dX5_readsWord_1 : decode cX5_readsWord 1 = .ok (.iconst 1, 1) := by decide +kernel
theorem dX5_readsWord_2 : decode cX5_readsWord 2 = .ok (.if_icmp .lt 12, 3) := by decide +kernel
theorem dX5_readsWord_5 : decode cX5_readsWord 5 = .ok (.iload_n 0, 1) := by decide +kernel
theorem dX5_readsWord_6 : decode cX5_readsWord 6 = .ok (.iconst 5, 1) := by decide +kernel
theorem dX5_readsWord_7 : decode cX5_readsWord 7 = .ok (.if_icmp .gt 7, 3) := by decide +kernel
theorem dX5_readsWord_10 : decode cX5_readsWord 10 = .ok (.iconst 1, 1) := by decide +kernel
theorem dX5_readsWord_11 : decode cX5_readsWord 11 = .ok (.goto 4, 3) := by decide +kernel
theorem dX5_readsWord_14 : decode cX5_readsWord 14 = .ok (.iconst 0, 1) := by decide +kernel
theorem dX5_readsWord_15 : decode cX5_readsWord 15 = .ok (.ireturn, 1) := by decide +kernel
theorem dX5_isOrder_0 : decode cX5_isOrder 0 = .ok (.iload_n 1, 1) := by decide +kernel
theorem dX5_isOrder_1 : decode cX5_isOrder 1 = .ok (.ifCond .lt 38, 3) := by decide +kernel
theorem dX5_isOrder_4 : decode cX5_isOrder 4 = .ok (.iload_n 1, 1) := by decide +kernel
theorem dX5_isOrder_5 : decode cX5_isOrder 5 = .ok (.invokestatic 34, 3) := by decide +kernel
theorem dX5_isOrder_8 : decode cX5_isOrder 8 = .ok (.bipush 9, 2) := by decide +kernel
theorem dX5_isOrder_10 : decode cX5_isOrder 10 = .ok (.if_icmp .gt 29, 3) := by decide +kernel
theorem dX5_isOrder_13 : decode cX5_isOrder 13 = .ok (.aload_n 0, 1) := by decide +kernel
theorem dX5_isOrder_14 : decode cX5_isOrder 14 = .ok (.iload_n 1, 1) := by decide +kernel
theorem dX5_isOrder_15 : decode cX5_isOrder 15 = .ok (.invokestatic 38, 3) := by decide +kernel
theorem dX5_isOrder_18 : decode cX5_isOrder 18 = .ok (.invokevirtual 41, 3) := by decide +kernel
theorem dX5_isOrder_21 : decode cX5_isOrder 21 = .ok (.ifCond .eq 18, 3) := by decide +kernel
theorem dX5_isOrder_24 : decode cX5_isOrder 24 = .ok (.aload_n 0, 1) := by decide +kernel
theorem dX5_isOrder_25 : decode cX5_isOrder 25 = .ok (.iload_n 1, 1) := by decide +kernel
theorem dX5_isOrder_26 : decode cX5_isOrder 26 = .ok (.invokestatic 45, 3) := by decide +kernel
theorem dX5_isOrder_29 : decode cX5_isOrder 29 = .ok (.invokevirtual 41, 3) := by decide +kernel
theorem dX5_isOrder_32 : decode cX5_isOrder 32 = .ok (.ifCond .eq 7, 3) := by decide +kernel
theorem dX5_isOrder_35 : decode cX5_isOrder 35 = .ok (.iconst 1, 1) := by decide +kernel
theorem dX5_isOrder_36 : decode cX5_isOrder 36 = .ok (.goto 4, 3) := by decide +kernel
theorem dX5_isOrder_39 : decode cX5_isOrder 39 = .ok (.iconst 0, 1) := by decide +kernel
theorem dX5_isOrder_40 : decode cX5_isOrder 40 = .ok (.ireturn, 1) := by decide +kernel
theorem dX5_kindOf_0 : decode cX5_kindOf 0 = .ok (.aload_n 0, 1) := by decide +kernel
theorem dX5_kindOf_1 : decode cX5_kindOf 1 = .ok (.getfield 15, 3) := by decide +kernel
theorem dX5_kindOf_4 : decode cX5_kindOf 4 = .ok (.iconst 0, 1) := by decide +kernel
theorem dX5_kindOf_5 : decode cX5_kindOf 5 = .ok (.invokestatic 48, 3) := by decide +kernel
theorem dX5_kindOf_8 : decode cX5_kindOf 8 = .ok (.aload_n 0, 1) := by decide +kernel
theorem dX5_kindOf_9 : decode cX5_kindOf 9 = .ok (.iconst 0, 1) := by decide +kernel
theorem dX5_kindOf_10 : decode cX5_kindOf 10 = .ok (.putfield 54, 3) := by decide +kernel
theorem dX5_kindOf_13 : decode cX5_kindOf 13 = .ok (.aload_n 0, 1) := by decide +kernel
theorem dX5_kindOf_14 : decode cX5_kindOf 14 = .ok (.aload_n 0, 1) := by decide +kernel
theorem dX5_kindOf_15 : decode cX5_kindOf 15 = .ok (.getfield 25, 3) := by decide +kernel
theorem dX5_kindOf_18 : decode cX5_kindOf 18 = .ok (.invokevirtual 57, 3) := by decide +kernel
theorem dX5_kindOf_21 : decode cX5_kindOf 21 = .ok (.iconst 0, 1) := by decide +kernel
theorem dX5_kindOf_22 : decode cX5_kindOf 22 = .ok (.istore_n 2, 1) := by decide +kernel
theorem dX5_kindOf_23 : decode cX5_kindOf 23 = .ok (.iload_n 2, 1) := by decide +kernel
theorem dX5_kindOf_24 : decode cX5_kindOf 24 = .ok (.aload_n 0, 1) := by decide +kernel
theorem dX5_kindOf_25 : decode cX5_kindOf 25 = .ok (.getfield 54, 3) := by decide +kernel
theorem dX5_kindOf_28 : decode cX5_kindOf 28 = .ok (.if_icmp .ge 30, 3) := by decide +kernel
theorem dX5_kindOf_31 : decode cX5_kindOf 31 = .ok (.iload_n 2, 1) := by decide +kernel
theorem dX5_kindOf_32 : decode cX5_kindOf 32 = .ok (.bipush 40, 2) := by decide +kernel
theorem dX5_kindOf_34 : decode cX5_kindOf 34 = .ok (.if_icmp .ge 24, 3) := by decide +kernel
theorem dX5_kindOf_37 : decode cX5_kindOf 37 = .ok (.aload_n 0, 1) := by decide +kernel
theorem dX5_kindOf_38 : decode cX5_kindOf 38 = .ok (.aload_n 0, 1) := by decide +kernel
theorem dX5_kindOf_39 : decode cX5_kindOf 39 = .ok (.getfield 9, 3) := by decide +kernel
theorem dX5_kindOf_42 : decode cX5_kindOf 42 = .ok (.aload_n 0, 1) := by decide +kernel
theorem dX5_kindOf_43 : decode cX5_kindOf 43 = .ok (.getfield 18, 3) := by decide +kernel
theorem dX5_kindOf_46 : decode cX5_kindOf 46 = .ok (.iload_n 2, 1) := by decide +kernel
theorem dX5_kindOf_47 : decode cX5_kindOf 47 = .ok (.iaload, 1) := by decide +kernel
theorem dX5_kindOf_48 : decode cX5_kindOf 48 = .ok (.iaload, 1) := by decide +kernel
theorem dX5_kindOf_49 : decode cX5_kindOf 49 = .ok (.invokevirtual 61, 3) := by decide +kernel
theorem dX5_kindOf_52 : decode cX5_kindOf 52 = .ok (.iinc 2 1, 3) := by decide +kernel
theorem dX5_kindOf_55 : decode cX5_kindOf 55 = .ok (.goto (-32), 3) := by decide +kernel
theorem dX5_kindOf_58 : decode cX5_kindOf 58 = .ok (.aload_n 0, 1) := by decide +kernel
theorem dX5_kindOf_59 : decode cX5_kindOf 59 = .ok (.getfield 15, 3) := by decide +kernel
theorem dX5_kindOf_62 : decode cX5_kindOf 62 = .ok (.iload_n 1, 1) := by decide +kernel
theorem dX5_kindOf_63 : decode cX5_kindOf 63 = .ok (.iaload, 1) := by decide +kernel
theorem dX5_kindOf_64 : decode cX5_kindOf 64 = .ok (.ireturn, 1) := by decide +kernel
theorem dX5_followOrder_0 : decode cX5_followOrder 0 = .ok (.iload_n 1, 1) := by decide +kernel
theorem dX5_followOrder_1 : decode cX5_followOrder 1 = .ok (.invokestatic 34, 3) := by decide +kernel
theorem dX5_followOrder_4 : decode cX5_followOrder 4 = .ok (.istore_n 2, 1) := by decide +kernel
theorem dX5_followOrder_5 : decode cX5_followOrder 5 = .ok (.iload_n 1, 1) := by decide +kernel
theorem dX5_followOrder_6 : decode cX5_followOrder 6 = .ok (.invokestatic 38, 3) := by decide +kernel
theorem dX5_followOrder_9 : decode cX5_followOrder 9 = .ok (.istore_n 3, 1) := by decide +kernel
theorem dX5_followOrder_10 : decode cX5_followOrder 10 = .ok (.iload_n 2, 1) := by decide +kernel
theorem dX5_followOrder_11 : decode cX5_followOrder 11 = .ok (.ifCond .eq 11, 3) := by decide +kernel
theorem dX5_followOrder_14 : decode cX5_followOrder 14 = .ok (.aload_n 0, 1) := by decide +kernel
theorem dX5_followOrder_15 : decode cX5_followOrder 15 = .ok (.iload_n 1, 1) := by decide +kernel
theorem dX5_followOrder_16 : decode cX5_followOrder 16 = .ok (.invokestatic 45, 3) := by decide +kernel
theorem dX5_followOrder_19 : decode cX5_followOrder 19 = .ok (.invokevirtual 57, 3) := by decide +kernel
theorem dX5_followOrder_22 : decode cX5_followOrder 22 = .ok (.iload_n 2, 1) := by decide +kernel
theorem dX5_followOrder_23 : decode cX5_followOrder 23 = .ok (.bipush 6, 2) := by decide +kernel
theorem dX5_followOrder_25 : decode cX5_followOrder 25 = .ok (.if_icmp .eq 9, 3) := by decide +kernel
theorem dX5_followOrder_28 : decode cX5_followOrder 28 = .ok (.iload_n 2, 1) := by decide +kernel
theorem dX5_followOrder_29 : decode cX5_followOrder 29 = .ok (.bipush 7, 2) := by decide +kernel
theorem dX5_followOrder_31 : decode cX5_followOrder 31 = .ok (.if_icmp .ne 8, 3) := by decide +kernel
theorem dX5_followOrder_34 : decode cX5_followOrder 34 = .ok (.aload_n 0, 1) := by decide +kernel
theorem dX5_followOrder_35 : decode cX5_followOrder 35 = .ok (.iload_n 3, 1) := by decide +kernel
theorem dX5_followOrder_36 : decode cX5_followOrder 36 = .ok (.invokevirtual 57, 3) := by decide +kernel
theorem dX5_followOrder_39 : decode cX5_followOrder 39 = .ok (.iload_n 2, 1) := by decide +kernel
theorem dX5_followOrder_40 : decode cX5_followOrder 40 = .ok (.invokestatic 64, 3) := by decide +kernel
theorem dX5_followOrder_43 : decode cX5_followOrder 43 = .ok (.ifCond .eq 21, 3) := by decide +kernel
theorem dX5_followOrder_46 : decode cX5_followOrder 46 = .ok (.aload_n 0, 1) := by decide +kernel
theorem dX5_followOrder_47 : decode cX5_followOrder 47 = .ok (.iload_n 3, 1) := by decide +kernel
theorem dX5_followOrder_48 : decode cX5_followOrder 48 = .ok (.invokevirtual 41, 3) := by decide +kernel
theorem dX5_followOrder_51 : decode cX5_followOrder 51 = .ok (.ifCond .eq 13, 3) := by decide +kernel
theorem dX5_followOrder_54 : decode cX5_followOrder 54 = .ok (.aload_n 0, 1) := by decide +kernel
theorem dX5_followOrder_55 : decode cX5_followOrder 55 = .ok (.getfield 15, 3) := by decide +kernel
theorem dX5_followOrder_58 : decode cX5_followOrder 58 = .ok (.iload_n 3, 1) := by decide +kernel
theorem dX5_followOrder_59 : decode cX5_followOrder 59 = .ok (.dup2, 1) := by decide +kernel
theorem dX5_followOrder_60 : decode cX5_followOrder 60 = .ok (.iaload, 1) := by decide +kernel
theorem dX5_followOrder_61 : decode cX5_followOrder 61 = .ok (.iconst 2, 1) := by decide +kernel
theorem dX5_followOrder_62 : decode cX5_followOrder 62 = .ok (.ior, 1) := by decide +kernel
theorem dX5_followOrder_63 : decode cX5_followOrder 63 = .ok (.iastore, 1) := by decide +kernel
theorem dX5_followOrder_64 : decode cX5_followOrder 64 = .ok (.return_, 1) := by decide +kernel
theorem dX5_reach_0 : decode cX5_reach 0 = .ok (.aload_n 0, 1) := by decide +kernel
theorem dX5_reach_1 : decode cX5_reach 1 = .ok (.iload_n 1, 1) := by decide +kernel
theorem dX5_reach_2 : decode cX5_reach 2 = .ok (.invokevirtual 41, 3) := by decide +kernel
theorem dX5_reach_5 : decode cX5_reach 5 = .ok (.ifCond .eq 27, 3) := by decide +kernel
theorem dX5_reach_8 : decode cX5_reach 8 = .ok (.aload_n 0, 1) := by decide +kernel
theorem dX5_reach_9 : decode cX5_reach 9 = .ok (.getfield 15, 3) := by decide +kernel
theorem dX5_reach_12 : decode cX5_reach 12 = .ok (.iload_n 1, 1) := by decide +kernel
theorem dX5_reach_13 : decode cX5_reach 13 = .ok (.iaload, 1) := by decide +kernel
theorem dX5_reach_14 : decode cX5_reach 14 = .ok (.iconst 1, 1) := by decide +kernel
theorem dX5_reach_15 : decode cX5_reach 15 = .ok (.iand, 1) := by decide +kernel
theorem dX5_reach_16 : decode cX5_reach 16 = .ok (.ifCond .ne 16, 3) := by decide +kernel
theorem dX5_reach_19 : decode cX5_reach 19 = .ok (.aload_n 0, 1) := by decide +kernel
theorem dX5_reach_20 : decode cX5_reach 20 = .ok (.aload_n 0, 1) := by decide +kernel
theorem dX5_reach_21 : decode cX5_reach 21 = .ok (.getfield 9, 3) := by decide +kernel
theorem dX5_reach_24 : decode cX5_reach 24 = .ok (.iload_n 1, 1) := by decide +kernel
theorem dX5_reach_25 : decode cX5_reach 25 = .ok (.iaload, 1) := by decide +kernel
theorem dX5_reach_26 : decode cX5_reach 26 = .ok (.invokevirtual 67, 3) := by decide +kernel
theorem dX5_reach_29 : decode cX5_reach 29 = .ok (.ifCond .ne 4, 3) := by decide +kernel
theorem dX5_reach_32 : decode cX5_reach 32 = .ok (.return_, 1) := by decide +kernel
theorem dX5_reach_33 : decode cX5_reach 33 = .ok (.aload_n 0, 1) := by decide +kernel
theorem dX5_reach_34 : decode cX5_reach 34 = .ok (.getfield 15, 3) := by decide +kernel
theorem dX5_reach_37 : decode cX5_reach 37 = .ok (.iload_n 1, 1) := by decide +kernel
theorem dX5_reach_38 : decode cX5_reach 38 = .ok (.dup2, 1) := by decide +kernel
theorem dX5_reach_39 : decode cX5_reach 39 = .ok (.iaload, 1) := by decide +kernel
theorem dX5_reach_40 : decode cX5_reach 40 = .ok (.iconst 1, 1) := by decide +kernel
theorem dX5_reach_41 : decode cX5_reach 41 = .ok (.ior, 1) := by decide +kernel
theorem dX5_reach_42 : decode cX5_reach 42 = .ok (.iastore, 1) := by decide +kernel
theorem dX5_reach_43 : decode cX5_reach 43 = .ok (.aload_n 0, 1) := by decide +kernel
theorem dX5_reach_44 : decode cX5_reach 44 = .ok (.getfield 54, 3) := by decide +kernel
theorem dX5_reach_47 : decode cX5_reach 47 = .ok (.ifCond .lt 32, 3) := by decide +kernel
theorem dX5_reach_50 : decode cX5_reach 50 = .ok (.aload_n 0, 1) := by decide +kernel
theorem dX5_reach_51 : decode cX5_reach 51 = .ok (.getfield 54, 3) := by decide +kernel
theorem dX5_reach_54 : decode cX5_reach 54 = .ok (.bipush 40, 2) := by decide +kernel
theorem dX5_reach_56 : decode cX5_reach 56 = .ok (.if_icmp .ge 23, 3) := by decide +kernel
theorem dX5_reach_59 : decode cX5_reach 59 = .ok (.aload_n 0, 1) := by decide +kernel
theorem dX5_reach_60 : decode cX5_reach 60 = .ok (.getfield 18, 3) := by decide +kernel
theorem dX5_reach_63 : decode cX5_reach 63 = .ok (.aload_n 0, 1) := by decide +kernel
theorem dX5_reach_64 : decode cX5_reach 64 = .ok (.getfield 54, 3) := by decide +kernel
theorem dX5_reach_67 : decode cX5_reach 67 = .ok (.iload_n 1, 1) := by decide +kernel
theorem dX5_reach_68 : decode cX5_reach 68 = .ok (.iastore, 1) := by decide +kernel
theorem dX5_reach_69 : decode cX5_reach 69 = .ok (.aload_n 0, 1) := by decide +kernel
theorem dX5_reach_70 : decode cX5_reach 70 = .ok (.dup, 1) := by decide +kernel
theorem dX5_reach_71 : decode cX5_reach 71 = .ok (.getfield 54, 3) := by decide +kernel
theorem dX5_reach_74 : decode cX5_reach 74 = .ok (.iconst 1, 1) := by decide +kernel
theorem dX5_reach_75 : decode cX5_reach 75 = .ok (.iadd, 1) := by decide +kernel
theorem dX5_reach_76 : decode cX5_reach 76 = .ok (.putfield 54, 3) := by decide +kernel
theorem dX5_reach_79 : decode cX5_reach 79 = .ok (.return_, 1) := by decide +kernel
theorem dX6_init_0 : decode cX6_init 0 = .ok (.aload_n 0, 1) := by decide +kernel
theorem dX6_init_1 : decode cX6_init 1 = .ok (.invokespecial 3, 3) := by decide +kernel
theorem dX6_init_4 : decode cX6_init 4 = .ok (.aload_n 0, 1) := by decide +kernel
theorem dX6_init_5 : decode cX6_init 5 = .ok (.new 9, 3) := by decide +kernel
theorem dX6_init_8 : decode cX6_init 8 = .ok (.dup, 1) := by decide +kernel
theorem dX6_init_9 : decode cX6_init 9 = .ok (.invokespecial 11, 3) := by decide +kernel
theorem dX6_init_12 : decode cX6_init 12 = .ok (.putfield 12, 3) := by decide +kernel
theorem dX6_init_15 : decode cX6_init 15 = .ok (.aload_n 0, 1) := by decide +kernel
theorem dX6_init_16 : decode cX6_init 16 = .ok (.bipush 40, 2) := by decide +kernel
theorem dX6_init_18 : decode cX6_init 18 = .ok (.newarray .int, 2) := by decide +kernel
theorem dX6_init_20 : decode cX6_init 20 = .ok (.putfield 18, 3) := by decide +kernel
theorem dX6_init_23 : decode cX6_init 23 = .ok (.aload_n 0, 1) := by decide +kernel
theorem dX6_init_24 : decode cX6_init 24 = .ok (.bipush 40, 2) := by decide +kernel
theorem dX6_init_26 : decode cX6_init 26 = .ok (.newarray .int, 2) := by decide +kernel
theorem dX6_init_28 : decode cX6_init 28 = .ok (.putfield 22, 3) := by decide +kernel
theorem dX6_init_31 : decode cX6_init 31 = .ok (.aload_n 0, 1) := by decide +kernel
theorem dX6_init_32 : decode cX6_init 32 = .ok (.bipush 40, 2) := by decide +kernel
theorem dX6_init_34 : decode cX6_init 34 = .ok (.newarray .int, 2) := by decide +kernel
theorem dX6_init_36 : decode cX6_init 36 = .ok (.putfield 25, 3) := by decide +kernel
theorem dX6_init_39 : decode cX6_init 39 = .ok (.aload_n 0, 1) := by decide +kernel
theorem dX6_init_40 : decode cX6_init 40 = .ok (.bipush 40, 2) := by decide +kernel
theorem dX6_init_42 : decode cX6_init 42 = .ok (.newarray .int, 2) := by decide +kernel
theorem dX6_init_44 : decode cX6_init 44 = .ok (.putfield 28, 3) := by decide +kernel
theorem dX6_init_47 : decode cX6_init 47 = .ok (.aload_n 0, 1) := by decide +kernel
theorem dX6_init_48 : decode cX6_init 48 = .ok (.bipush 40, 2) := by decide +kernel
theorem dX6_init_50 : decode cX6_init 50 = .ok (.newarray .int, 2) := by decide +kernel
theorem dX6_init_52 : decode cX6_init 52 = .ok (.putfield 31, 3) := by decide +kernel
theorem dX6_init_55 : decode cX6_init 55 = .ok (.aload_n 0, 1) := by decide +kernel
theorem dX6_init_56 : decode cX6_init 56 = .ok (.bipush 40, 2) := by decide +kernel
theorem dX6_init_58 : decode cX6_init 58 = .ok (.newarray .int, 2) := by decide +kernel
theorem dX6_init_60 : decode cX6_init 60 = .ok (.putfield 34, 3) := by decide +kernel
theorem dX6_init_63 : decode cX6_init 63 = .ok (.aload_n 0, 1) := by decide +kernel
theorem dX6_init_64 : decode cX6_init 64 = .ok (.aload_n 1, 1) := by decide +kernel
theorem dX6_init_65 : decode cX6_init 65 = .ok (.putfield 37, 3) := by decide +kernel
theorem dX6_init_68 : decode cX6_init 68 = .ok (.return_, 1) := by decide +kernel
theorem dX6_read_0 : decode cX6_read 0 = .ok (.aload_n 0, 1) := by decide +kernel
theorem dX6_read_1 : decode cX6_read 1 = .ok (.getfield 37, 3) := by decide +kernel
theorem dX6_read_4 : decode cX6_read 4 = .ok (.invokevirtual 41, 3) := by decide +kernel
theorem dX6_read_7 : decode cX6_read 7 = .ok (.aload_n 0, 1) := by decide +kernel
theorem dX6_read_8 : decode cX6_read 8 = .ok (.getfield 12, 3) := by decide +kernel
theorem dX6_read_11 : decode cX6_read 11 = .ok (.invokevirtual 46, 3) := by decide +kernel
theorem dX6_read_14 : decode cX6_read 14 = .ok (.iconst 0, 1) := by decide +kernel
theorem dX6_read_15 : decode cX6_read 15 = .ok (.istore_n 1, 1) := by decide +kernel
theorem dX6_read_16 : decode cX6_read 16 = .ok (.iload_n 1, 1) := by decide +kernel
theorem dX6_read_17 : decode cX6_read 17 = .ok (.bipush 40, 2) := by decide +kernel
theorem dX6_read_19 : decode cX6_read 19 = .ok (.if_icmp .gt 28, 3) := by decide +kernel
theorem dX6_read_22 : decode cX6_read 22 = .ok (.aload_n 0, 1) := by decide +kernel
theorem dX6_read_23 : decode cX6_read 23 = .ok (.getfield 37, 3) := by decide +kernel
theorem dX6_read_26 : decode cX6_read 26 = .ok (.getfield 49, 3) := by decide +kernel
theorem dX6_read_29 : decode cX6_read 29 = .ok (.ifCond .eq 18, 3) := by decide +kernel
theorem dX6_read_32 : decode cX6_read 32 = .ok (.aload_n 0, 1) := by decide +kernel
theorem dX6_read_33 : decode cX6_read 33 = .ok (.invokevirtual 53, 3) := by decide +kernel
theorem dX6_read_36 : decode cX6_read 36 = .ok (.ifCond .ne 5, 3) := by decide +kernel
theorem dX6_read_39 : decode cX6_read 39 = .ok (.iconst 0, 1) := by decide +kernel
theorem dX6_read_40 : decode cX6_read 40 = .ok (.ireturn, 1) := by decide +kernel
theorem dX6_read_41 : decode cX6_read 41 = .ok (.iinc 1 1, 3) := by decide +kernel
theorem dX6_read_44 : decode cX6_read 44 = .ok (.goto (-28), 3) := by decide +kernel
theorem dX6_read_47 : decode cX6_read 47 = .ok (.iconst 0, 1) := by decide +kernel
theorem dX6_read_48 : decode cX6_read 48 = .ok (.istore_n 1, 1) := by decide +kernel
theorem dX6_read_49 : decode cX6_read 49 = .ok (.iload_n 1, 1) := by decide +kernel
theorem dX6_read_50 : decode cX6_read 50 = .ok (.aload_n 0, 1) := by decide +kernel
theorem dX6_read_51 : decode cX6_read 51 = .ok (.getfield 12, 3) := by decide +kernel
theorem dX6_read_54 : decode cX6_read 54 = .ok (.getfield 57, 3) := by decide +kernel
theorem dX6_read_57 : decode cX6_read 57 = .ok (.if_icmp .ge 35, 3) := by decide +kernel
theorem dX6_read_60 : decode cX6_read 60 = .ok (.iload_n 1, 1) := by decide +kernel
theorem dX6_read_61 : decode cX6_read 61 = .ok (.bipush 40, 2) := by decide +kernel
theorem dX6_read_63 : decode cX6_read 63 = .ok (.if_icmp .ge 29, 3) := by decide +kernel
theorem dX6_read_66 : decode cX6_read 66 = .ok (.aload_n 0, 1) := by decide +kernel
theorem dX6_read_67 : decode cX6_read 67 = .ok (.getfield 34, 3) := by decide +kernel
theorem dX6_read_70 : decode cX6_read 70 = .ok (.iload_n 1, 1) := by decide +kernel
theorem dX6_read_71 : decode cX6_read 71 = .ok (.iaload, 1) := by decide +kernel
theorem dX6_read_72 : decode cX6_read 72 = .ok (.iconst (-1), 1) := by decide +kernel
theorem dX6_read_73 : decode cX6_read 73 = .ok (.if_icmp .eq 13, 3) := by decide +kernel
theorem dX6_read_76 : decode cX6_read 76 = .ok (.aload_n 0, 1) := by decide +kernel
theorem dX6_read_77 : decode cX6_read 77 = .ok (.iload_n 1, 1) := by decide +kernel
theorem dX6_read_78 : decode cX6_read 78 = .ok (.invokevirtual 60, 3) := by decide +kernel
theorem dX6_read_81 : decode cX6_read 81 = .ok (.ifCond .ne 5, 3) := by decide +kernel
theorem dX6_read_84 : decode cX6_read 84 = .ok (.iconst 0, 1) := by decide +kernel
theorem dX6_read_85 : decode cX6_read 85 = .ok (.ireturn, 1) := by decide +kernel
theorem dX6_read_86 : decode cX6_read 86 = .ok (.iinc 1 1, 3) := by decide +kernel
theorem dX6_read_89 : decode cX6_read 89 = .ok (.goto (-40), 3) := by decide +kernel
theorem dX6_read_92 : decode cX6_read 92 = .ok (.iconst 1, 1) := by decide +kernel
theorem dX6_read_93 : decode cX6_read 93 = .ok (.ireturn, 1) := by decide +kernel
theorem dX6_readLine_0 : decode cX6_readLine 0 = .ok (.aload_n 0, 1) := by decide +kernel
theorem dX6_readLine_1 : decode cX6_readLine 1 = .ok (.getfield 37, 3) := by decide +kernel
theorem dX6_readLine_4 : decode cX6_readLine 4 = .ok (.getfield 49, 3) := by decide +kernel
theorem dX6_readLine_7 : decode cX6_readLine 7 = .ok (.iconst 1, 1) := by decide +kernel
theorem dX6_readLine_8 : decode cX6_readLine 8 = .ok (.if_icmp .eq 19, 3) := by decide +kernel
theorem dX6_readLine_11 : decode cX6_readLine 11 = .ok (.aload_n 0, 1) := by decide +kernel
theorem dX6_readLine_12 : decode cX6_readLine 12 = .ok (.getfield 37, 3) := by decide +kernel
theorem dX6_readLine_15 : decode cX6_readLine 15 = .ok (.iconst 1, 1) := by decide +kernel
theorem dX6_readLine_16 : decode cX6_readLine 16 = .ok (.aload_n 0, 1) := by decide +kernel
theorem dX6_readLine_17 : decode cX6_readLine 17 = .ok (.getfield 37, 3) := by decide +kernel
theorem dX6_readLine_20 : decode cX6_readLine 20 = .ok (.getfield 64, 3) := by decide +kernel
theorem dX6_readLine_23 : decode cX6_readLine 23 = .ok (.invokevirtual 67, 3) := by decide +kernel
theorem dX6_readLine_26 : decode cX6_readLine 26 = .ok (.ireturn, 1) := by decide +kernel
theorem dX6_readLine_27 : decode cX6_readLine 27 = .ok (.aload_n 0, 1) := by decide +kernel
theorem dX6_readLine_28 : decode cX6_readLine 28 = .ok (.aload_n 0, 1) := by decide +kernel
theorem dX6_readLine_29 : decode cX6_readLine 29 = .ok (.getfield 37, 3) := by decide +kernel
theorem dX6_readLine_32 : decode cX6_readLine 32 = .ok (.getfield 71, 3) := by decide +kernel
theorem dX6_readLine_35 : decode cX6_readLine 35 = .ok (.invokevirtual 74, 3) := by decide +kernel
theorem dX6_readLine_38 : decode cX6_readLine 38 = .ok (.iconst (-1), 1) := by decide +kernel
theorem dX6_readLine_39 : decode cX6_readLine 39 = .ok (.if_icmp .eq 19, 3) := by decide +kernel
theorem dX6_readLine_42 : decode cX6_readLine 42 = .ok (.aload_n 0, 1) := by decide +kernel
theorem dX6_readLine_43 : decode cX6_readLine 43 = .ok (.getfield 37, 3) := by decide +kernel
theorem dX6_readLine_46 : decode cX6_readLine 46 = .ok (.iconst 3, 1) := by decide +kernel
theorem dX6_readLine_47 : decode cX6_readLine 47 = .ok (.aload_n 0, 1) := by decide +kernel
theorem dX6_readLine_48 : decode cX6_readLine 48 = .ok (.getfield 37, 3) := by decide +kernel
theorem dX6_readLine_51 : decode cX6_readLine 51 = .ok (.getfield 64, 3) := by decide +kernel
theorem dX6_readLine_54 : decode cX6_readLine 54 = .ok (.invokevirtual 67, 3) := by decide +kernel
theorem dX6_readLine_57 : decode cX6_readLine 57 = .ok (.ireturn, 1) := by decide +kernel
theorem dX6_readLine_58 : decode cX6_readLine 58 = .ok (.aload_n 0, 1) := by decide +kernel
theorem dX6_readLine_59 : decode cX6_readLine 59 = .ok (.getfield 12, 3) := by decide +kernel
theorem dX6_readLine_62 : decode cX6_readLine 62 = .ok (.getfield 57, 3) := by decide +kernel
theorem dX6_readLine_65 : decode cX6_readLine 65 = .ok (.istore_n 1, 1) := by decide +kernel
theorem dX6_readLine_66 : decode cX6_readLine 66 = .ok (.iload_n 1, 1) := by decide +kernel
theorem dX6_readLine_67 : decode cX6_readLine 67 = .ok (.ifCond .lt 9, 3) := by decide +kernel
theorem dX6_readLine_70 : decode cX6_readLine 70 = .ok (.iload_n 1, 1) := by decide +kernel
theorem dX6_readLine_71 : decode cX6_readLine 71 = .ok (.bipush 40, 2) := by decide +kernel
theorem dX6_readLine_73 : decode cX6_readLine 73 = .ok (.if_icmp .lt 19, 3) := by decide +kernel
theorem dX6_readLine_76 : decode cX6_readLine 76 = .ok (.aload_n 0, 1) := by decide +kernel
theorem dX6_readLine_77 : decode cX6_readLine 77 = .ok (.getfield 37, 3) := by decide +kernel
theorem dX6_readLine_80 : decode cX6_readLine 80 = .ok (.iconst 4, 1) := by decide +kernel
theorem dX6_readLine_81 : decode cX6_readLine 81 = .ok (.aload_n 0, 1) := by decide +kernel
theorem dX6_readLine_82 : decode cX6_readLine 82 = .ok (.getfield 37, 3) := by decide +kernel
theorem dX6_readLine_85 : decode cX6_readLine 85 = .ok (.getfield 64, 3) := by decide +kernel
theorem dX6_readLine_88 : decode cX6_readLine 88 = .ok (.invokevirtual 67, 3) := by decide +kernel
theorem dX6_readLine_91 : decode cX6_readLine 91 = .ok (.ireturn, 1) := by decide +kernel
theorem dX6_readLine_92 : decode cX6_readLine 92 = .ok (.aload_n 0, 1) := by decide +kernel
theorem dX6_readLine_93 : decode cX6_readLine 93 = .ok (.getfield 18, 3) := by decide +kernel
theorem dX6_readLine_96 : decode cX6_readLine 96 = .ok (.iload_n 1, 1) := by decide +kernel
theorem dX6_readLine_97 : decode cX6_readLine 97 = .ok (.aload_n 0, 1) := by decide +kernel
theorem dX6_readLine_98 : decode cX6_readLine 98 = .ok (.getfield 37, 3) := by decide +kernel
theorem dX6_readLine_101 : decode cX6_readLine 101 = .ok (.getfield 71, 3) := by decide +kernel
theorem dX6_readLine_104 : decode cX6_readLine 104 = .ok (.iastore, 1) := by decide +kernel
theorem dX6_readLine_105 : decode cX6_readLine 105 = .ok (.aload_n 0, 1) := by decide +kernel
theorem dX6_readLine_106 : decode cX6_readLine 106 = .ok (.getfield 12, 3) := by decide +kernel
theorem dX6_readLine_109 : decode cX6_readLine 109 = .ok (.dup, 1) := by decide +kernel
theorem dX6_readLine_110 : decode cX6_readLine 110 = .ok (.getfield 57, 3) := by decide +kernel
theorem dX6_readLine_113 : decode cX6_readLine 113 = .ok (.iconst 1, 1) := by decide +kernel
theorem dX6_readLine_114 : decode cX6_readLine 114 = .ok (.iadd, 1) := by decide +kernel
theorem dX6_readLine_115 : decode cX6_readLine 115 = .ok (.putfield 57, 3) := by decide +kernel
theorem dX6_readLine_118 : decode cX6_readLine 118 = .ok (.aload_n 0, 1) := by decide +kernel
theorem dX6_readLine_119 : decode cX6_readLine 119 = .ok (.getfield 37, 3) := by decide +kernel
theorem dX6_readLine_122 : decode cX6_readLine 122 = .ok (.invokevirtual 78, 3) := by decide +kernel
theorem dX6_readLine_125 : decode cX6_readLine 125 = .ok (.aload_n 0, 1) := by decide +kernel
theorem dX6_readLine_126 : decode cX6_readLine 126 = .ok (.getfield 37, 3) := by decide +kernel
theorem dX6_readLine_129 : decode cX6_readLine 129 = .ok (.getfield 49, 3) := by decide +kernel
theorem dX6_readLine_132 : decode cX6_readLine 132 = .ok (.bipush 61, 2) := by decide +kernel
theorem dX6_readLine_134 : decode cX6_readLine 134 = .ok (.if_icmp .ne 9, 3) := by decide +kernel
theorem dX6_readLine_137 : decode cX6_readLine 137 = .ok (.aload_n 0, 1) := by decide +kernel
theorem dX6_readLine_138 : decode cX6_readLine 138 = .ok (.iload_n 1, 1) := by decide +kernel
theorem dX6_readLine_139 : decode cX6_readLine 139 = .ok (.invokevirtual 81, 3) := by decide +kernel
theorem dX6_readLine_142 : decode cX6_readLine 142 = .ok (.ireturn, 1) := by decide +kernel
theorem dX6_readLine_143 : decode cX6_readLine 143 = .ok (.aload_n 0, 1) := by decide +kernel
theorem dX6_readLine_144 : decode cX6_readLine 144 = .ok (.getfield 37, 3) := by decide +kernel
theorem dX6_readLine_147 : decode cX6_readLine 147 = .ok (.bipush 58, 2) := by decide +kernel
theorem dX6_readLine_149 : decode cX6_readLine 149 = .ok (.invokevirtual 84, 3) := by decide +kernel
theorem dX6_readLine_152 : decode cX6_readLine 152 = .ok (.ifCond .eq 15, 3) := by decide +kernel
theorem dX6_readLine_155 : decode cX6_readLine 155 = .ok (.aload_n 0, 1) := by decide +kernel
theorem dX6_readLine_156 : decode cX6_readLine 156 = .ok (.iload_n 1, 1) := by decide +kernel
theorem dX6_readLine_157 : decode cX6_readLine 157 = .ok (.invokevirtual 87, 3) := by decide +kernel
theorem dX6_readLine_160 : decode cX6_readLine 160 = .ok (.ifCond .eq 7, 3) := by decide +kernel
theorem dX6_readLine_163 : decode cX6_readLine 163 = .ok (.iconst 1, 1) := by decide +kernel
theorem dX6_readLine_164 : decode cX6_readLine 164 = .ok (.goto 4, 3) := by decide +kernel
theorem dX6_readLine_167 : decode cX6_readLine 167 = .ok (.iconst 0, 1) := by decide +kernel
theorem dX6_readLine_168 : decode cX6_readLine 168 = .ok (.ireturn, 1) := by decide +kernel
theorem dX6_readNumberLine_0 : decode cX6_readNumberLine 0 = .ok (.aload_n 0, 1) := by decide +kernel
theorem dX6_readNumberLine_1 : decode cX6_readNumberLine 1 = .ok (.getfield 34, 3) := by decide +kernel
theorem dX6_readNumberLine_4 : decode cX6_readNumberLine 4 = .ok (.iload_n 1, 1) := by decide +kernel
theorem dX6_readNumberLine_5 : decode cX6_readNumberLine 5 = .ok (.iconst (-1), 1) := by decide +kernel
theorem dX6_readNumberLine_6 : decode cX6_readNumberLine 6 = .ok (.iastore, 1) := by decide +kernel
theorem dX6_readNumberLine_7 : decode cX6_readNumberLine 7 = .ok (.aload_n 0, 1) := by decide +kernel
theorem dX6_readNumberLine_8 : decode cX6_readNumberLine 8 = .ok (.getfield 37, 3) := by decide +kernel
theorem dX6_readNumberLine_11 : decode cX6_readNumberLine 11 = .ok (.invokevirtual 78, 3) := by decide +kernel
theorem dX6_readNumberLine_14 : decode cX6_readNumberLine 14 = .ok (.aload_n 0, 1) := by decide +kernel
theorem dX6_readNumberLine_15 : decode cX6_readNumberLine 15 = .ok (.getfield 37, 3) := by decide +kernel
theorem dX6_readNumberLine_18 : decode cX6_readNumberLine 18 = .ok (.getfield 49, 3) := by decide +kernel
theorem dX6_readNumberLine_21 : decode cX6_readNumberLine 21 = .ok (.bipush 45, 2) := by decide +kernel
theorem dX6_readNumberLine_23 : decode cX6_readNumberLine 23 = .ok (.if_icmp .ne 7, 3) := by decide +kernel
theorem dX6_readNumberLine_26 : decode cX6_readNumberLine 26 = .ok (.iconst 1, 1) := by decide +kernel
theorem dX6_readNumberLine_27 : decode cX6_readNumberLine 27 = .ok (.goto 4, 3) := by decide +kernel
theorem dX6_readNumberLine_30 : decode cX6_readNumberLine 30 = .ok (.iconst 0, 1) := by decide +kernel
theorem dX6_readNumberLine_31 : decode cX6_readNumberLine 31 = .ok (.istore_n 2, 1) := by decide +kernel
theorem dX6_readNumberLine_32 : decode cX6_readNumberLine 32 = .ok (.iload_n 2, 1) := by decide +kernel
theorem dX6_readNumberLine_33 : decode cX6_readNumberLine 33 = .ok (.ifCond .eq 10, 3) := by decide +kernel
theorem dX6_readNumberLine_36 : decode cX6_readNumberLine 36 = .ok (.aload_n 0, 1) := by decide +kernel
theorem dX6_readNumberLine_37 : decode cX6_readNumberLine 37 = .ok (.getfield 37, 3) := by decide +kernel
theorem dX6_readNumberLine_40 : decode cX6_readNumberLine 40 = .ok (.invokevirtual 78, 3) := by decide +kernel
theorem dX6_readNumberLine_43 : decode cX6_readNumberLine 43 = .ok (.aload_n 0, 1) := by decide +kernel
theorem dX6_readNumberLine_44 : decode cX6_readNumberLine 44 = .ok (.getfield 12, 3) := by decide +kernel
theorem dX6_readNumberLine_47 : decode cX6_readNumberLine 47 = .ok (.getfield 90, 3) := by decide +kernel
theorem dX6_readNumberLine_50 : decode cX6_readNumberLine 50 = .ok (.iload_n 1, 1) := by decide +kernel
theorem dX6_readNumberLine_51 : decode cX6_readNumberLine 51 = .ok (.iload_n 2, 1) := by decide +kernel
theorem dX6_readNumberLine_52 : decode cX6_readNumberLine 52 = .ok (.ifCond .eq 14, 3) := by decide +kernel
theorem dX6_readNumberLine_55 : decode cX6_readNumberLine 55 = .ok (.aload_n 0, 1) := by decide +kernel
theorem dX6_readNumberLine_56 : decode cX6_readNumberLine 56 = .ok (.getfield 37, 3) := by decide +kernel
theorem dX6_readNumberLine_59 : decode cX6_readNumberLine 59 = .ok (.getfield 71, 3) := by decide +kernel
theorem dX6_readNumberLine_62 : decode cX6_readNumberLine 62 = .ok (.ineg, 1) := by decide +kernel
theorem dX6_readNumberLine_63 : decode cX6_readNumberLine 63 = .ok (.goto 10, 3) := by decide +kernel
theorem dX6_readNumberLine_66 : decode cX6_readNumberLine 66 = .ok (.aload_n 0, 1) := by decide +kernel
theorem dX6_readNumberLine_67 : decode cX6_readNumberLine 67 = .ok (.getfield 37, 3) := by decide +kernel
theorem dX6_readNumberLine_70 : decode cX6_readNumberLine 70 = .ok (.getfield 71, 3) := by decide +kernel
theorem dX6_readNumberLine_73 : decode cX6_readNumberLine 73 = .ok (.iastore, 1) := by decide +kernel
theorem dX6_readNumberLine_74 : decode cX6_readNumberLine 74 = .ok (.aload_n 0, 1) := by decide +kernel
theorem dX6_readNumberLine_75 : decode cX6_readNumberLine 75 = .ok (.getfield 37, 3) := by decide +kernel
theorem dX6_readNumberLine_78 : decode cX6_readNumberLine 78 = .ok (.iconst 2, 1) := by decide +kernel
theorem dX6_readNumberLine_79 : decode cX6_readNumberLine 79 = .ok (.invokevirtual 84, 3) := by decide +kernel
theorem dX6_readNumberLine_82 : decode cX6_readNumberLine 82 = .ok (.ifCond .eq 19, 3) := by decide +kernel
theorem dX6_readNumberLine_85 : decode cX6_readNumberLine 85 = .ok (.aload_n 0, 1) := by decide +kernel
theorem dX6_readNumberLine_86 : decode cX6_readNumberLine 86 = .ok (.getfield 37, 3) := by decide +kernel
theorem dX6_readNumberLine_89 : decode cX6_readNumberLine 89 = .ok (.bipush 59, 2) := by decide +kernel
theorem dX6_readNumberLine_91 : decode cX6_readNumberLine 91 = .ok (.invokevirtual 84, 3) := by decide +kernel
theorem dX6_readNumberLine_94 : decode cX6_readNumberLine 94 = .ok (.ifCond .eq 7, 3) := by decide +kernel
theorem dX6_readNumberLine_97 : decode cX6_readNumberLine 97 = .ok (.iconst 1, 1) := by decide +kernel
theorem dX6_readNumberLine_98 : decode cX6_readNumberLine 98 = .ok (.goto 4, 3) := by decide +kernel
theorem dX6_readNumberLine_101 : decode cX6_readNumberLine 101 = .ok (.iconst 0, 1) := by decide +kernel
theorem dX6_readNumberLine_102 : decode cX6_readNumberLine 102 = .ok (.ireturn, 1) := by decide +kernel
theorem dX6_readOrderLine_0 : decode cX6_readOrderLine 0 = .ok (.aload_n 0, 1) := by decide +kernel
theorem dX6_readOrderLine_1 : decode cX6_readOrderLine 1 = .ok (.invokevirtual 93, 3) := by decide +kernel
theorem dX6_readOrderLine_4 : decode cX6_readOrderLine 4 = .ok (.istore_n 2, 1) := by decide +kernel
theorem dX6_readOrderLine_5 : decode cX6_readOrderLine 5 = .ok (.iload_n 2, 1) := by decide +kernel
theorem dX6_readOrderLine_6 : decode cX6_readOrderLine 6 = .ok (.iconst (-1), 1) := by decide +kernel
theorem dX6_readOrderLine_7 : decode cX6_readOrderLine 7 = .ok (.if_icmp .ne 19, 3) := by decide +kernel
theorem dX6_readOrderLine_10 : decode cX6_readOrderLine 10 = .ok (.aload_n 0, 1) := by decide +kernel
theorem dX6_readOrderLine_11 : decode cX6_readOrderLine 11 = .ok (.getfield 37, 3) := by decide +kernel
theorem dX6_readOrderLine_14 : decode cX6_readOrderLine 14 = .ok (.iconst 1, 1) := by decide +kernel
theorem dX6_readOrderLine_15 : decode cX6_readOrderLine 15 = .ok (.aload_n 0, 1) := by decide +kernel
theorem dX6_readOrderLine_16 : decode cX6_readOrderLine 16 = .ok (.getfield 37, 3) := by decide +kernel
theorem dX6_readOrderLine_19 : decode cX6_readOrderLine 19 = .ok (.getfield 64, 3) := by decide +kernel
theorem dX6_readOrderLine_22 : decode cX6_readOrderLine 22 = .ok (.invokevirtual 67, 3) := by decide +kernel
theorem dX6_readOrderLine_25 : decode cX6_readOrderLine 25 = .ok (.ireturn, 1) := by decide +kernel
theorem dX6_readOrderLine_26 : decode cX6_readOrderLine 26 = .ok (.aload_n 0, 1) := by decide +kernel
theorem dX6_readOrderLine_27 : decode cX6_readOrderLine 27 = .ok (.getfield 34, 3) := by decide +kernel
theorem dX6_readOrderLine_30 : decode cX6_readOrderLine 30 = .ok (.iload_n 1, 1) := by decide +kernel
theorem dX6_readOrderLine_31 : decode cX6_readOrderLine 31 = .ok (.iload_n 2, 1) := by decide +kernel
theorem dX6_readOrderLine_32 : decode cX6_readOrderLine 32 = .ok (.iastore, 1) := by decide +kernel
theorem dX6_readOrderLine_33 : decode cX6_readOrderLine 33 = .ok (.aload_n 0, 1) := by decide +kernel
theorem dX6_readOrderLine_34 : decode cX6_readOrderLine 34 = .ok (.getfield 22, 3) := by decide +kernel
theorem dX6_readOrderLine_37 : decode cX6_readOrderLine 37 = .ok (.iload_n 1, 1) := by decide +kernel
theorem dX6_readOrderLine_38 : decode cX6_readOrderLine 38 = .ok (.iconst 0, 1) := by decide +kernel
theorem dX6_readOrderLine_39 : decode cX6_readOrderLine 39 = .ok (.iastore, 1) := by decide +kernel
theorem dX6_readOrderLine_40 : decode cX6_readOrderLine 40 = .ok (.aload_n 0, 1) := by decide +kernel
theorem dX6_readOrderLine_41 : decode cX6_readOrderLine 41 = .ok (.getfield 25, 3) := by decide +kernel
theorem dX6_readOrderLine_44 : decode cX6_readOrderLine 44 = .ok (.iload_n 1, 1) := by decide +kernel
theorem dX6_readOrderLine_45 : decode cX6_readOrderLine 45 = .ok (.iconst 0, 1) := by decide +kernel
theorem dX6_readOrderLine_46 : decode cX6_readOrderLine 46 = .ok (.iastore, 1) := by decide +kernel
theorem dX6_readOrderLine_47 : decode cX6_readOrderLine 47 = .ok (.aload_n 0, 1) := by decide +kernel
theorem dX6_readOrderLine_48 : decode cX6_readOrderLine 48 = .ok (.getfield 37, 3) := by decide +kernel
theorem dX6_readOrderLine_51 : decode cX6_readOrderLine 51 = .ok (.invokevirtual 78, 3) := by decide +kernel
theorem dX6_readOrderLine_54 : decode cX6_readOrderLine 54 = .ok (.iload_n 2, 1) := by decide +kernel
theorem dX6_readOrderLine_55 : decode cX6_readOrderLine 55 = .ok (.iconst 1, 1) := by decide +kernel
theorem dX6_readOrderLine_56 : decode cX6_readOrderLine 56 = .ok (.if_icmp .lt 48, 3) := by decide +kernel
theorem dX6_readOrderLine_59 : decode cX6_readOrderLine 59 = .ok (.iload_n 2, 1) := by decide +kernel
theorem dX6_readOrderLine_60 : decode cX6_readOrderLine 60 = .ok (.bipush 7, 2) := by decide +kernel
theorem dX6_readOrderLine_62 : decode cX6_readOrderLine 62 = .ok (.if_icmp .gt 42, 3) := by decide +kernel
theorem dX6_readOrderLine_65 : decode cX6_readOrderLine 65 = .ok (.aload_n 0, 1) := by decide +kernel
theorem dX6_readOrderLine_66 : decode cX6_readOrderLine 66 = .ok (.getfield 22, 3) := by decide +kernel
theorem dX6_readOrderLine_69 : decode cX6_readOrderLine 69 = .ok (.iload_n 1, 1) := by decide +kernel
theorem dX6_readOrderLine_70 : decode cX6_readOrderLine 70 = .ok (.aload_n 0, 1) := by decide +kernel
theorem dX6_readOrderLine_71 : decode cX6_readOrderLine 71 = .ok (.getfield 37, 3) := by decide +kernel
theorem dX6_readOrderLine_74 : decode cX6_readOrderLine 74 = .ok (.getfield 71, 3) := by decide +kernel
theorem dX6_readOrderLine_77 : decode cX6_readOrderLine 77 = .ok (.iastore, 1) := by decide +kernel
theorem dX6_readOrderLine_78 : decode cX6_readOrderLine 78 = .ok (.aload_n 0, 1) := by decide +kernel
theorem dX6_readOrderLine_79 : decode cX6_readOrderLine 79 = .ok (.getfield 28, 3) := by decide +kernel
theorem dX6_readOrderLine_82 : decode cX6_readOrderLine 82 = .ok (.iload_n 1, 1) := by decide +kernel
theorem dX6_readOrderLine_83 : decode cX6_readOrderLine 83 = .ok (.aload_n 0, 1) := by decide +kernel
theorem dX6_readOrderLine_84 : decode cX6_readOrderLine 84 = .ok (.getfield 37, 3) := by decide +kernel
theorem dX6_readOrderLine_87 : decode cX6_readOrderLine 87 = .ok (.getfield 64, 3) := by decide +kernel
theorem dX6_readOrderLine_90 : decode cX6_readOrderLine 90 = .ok (.iastore, 1) := by decide +kernel
theorem dX6_readOrderLine_91 : decode cX6_readOrderLine 91 = .ok (.aload_n 0, 1) := by decide +kernel
theorem dX6_readOrderLine_92 : decode cX6_readOrderLine 92 = .ok (.getfield 37, 3) := by decide +kernel
theorem dX6_readOrderLine_95 : decode cX6_readOrderLine 95 = .ok (.iconst 1, 1) := by decide +kernel
theorem dX6_readOrderLine_96 : decode cX6_readOrderLine 96 = .ok (.invokevirtual 84, 3) := by decide +kernel
theorem dX6_readOrderLine_99 : decode cX6_readOrderLine 99 = .ok (.ifCond .ne 5, 3) := by decide +kernel
theorem dX6_readOrderLine_102 : decode cX6_readOrderLine 102 = .ok (.iconst 0, 1) := by decide +kernel
theorem dX6_readOrderLine_103 : decode cX6_readOrderLine 103 = .ok (.ireturn, 1) := by decide +kernel
theorem dX6_readOrderLine_104 : decode cX6_readOrderLine 104 = .ok (.aload_n 0, 1) := by decide +kernel
theorem dX6_readOrderLine_105 : decode cX6_readOrderLine 105 = .ok (.getfield 37, 3) := by decide +kernel
theorem dX6_readOrderLine_108 : decode cX6_readOrderLine 108 = .ok (.ldc 97, 2) := by decide +kernel
theorem dX6_readOrderLine_110 : decode cX6_readOrderLine 110 = .ok (.invokevirtual 99, 3) := by decide +kernel
theorem dX6_readOrderLine_113 : decode cX6_readOrderLine 113 = .ok (.ifCond .eq 49, 3) := by decide +kernel
theorem dX6_readOrderLine_116 : decode cX6_readOrderLine 116 = .ok (.aload_n 0, 1) := by decide +kernel
theorem dX6_readOrderLine_117 : decode cX6_readOrderLine 117 = .ok (.getfield 37, 3) := by decide +kernel
theorem dX6_readOrderLine_120 : decode cX6_readOrderLine 120 = .ok (.invokevirtual 78, 3) := by decide +kernel
theorem dX6_readOrderLine_123 : decode cX6_readOrderLine 123 = .ok (.aload_n 0, 1) := by decide +kernel
theorem dX6_readOrderLine_124 : decode cX6_readOrderLine 124 = .ok (.getfield 25, 3) := by decide +kernel
theorem dX6_readOrderLine_127 : decode cX6_readOrderLine 127 = .ok (.iload_n 1, 1) := by decide +kernel
theorem dX6_readOrderLine_128 : decode cX6_readOrderLine 128 = .ok (.aload_n 0, 1) := by decide +kernel
theorem dX6_readOrderLine_129 : decode cX6_readOrderLine 129 = .ok (.getfield 37, 3) := by decide +kernel
theorem dX6_readOrderLine_132 : decode cX6_readOrderLine 132 = .ok (.getfield 71, 3) := by decide +kernel
theorem dX6_readOrderLine_135 : decode cX6_readOrderLine 135 = .ok (.iastore, 1) := by decide +kernel
theorem dX6_readOrderLine_136 : decode cX6_readOrderLine 136 = .ok (.aload_n 0, 1) := by decide +kernel
theorem dX6_readOrderLine_137 : decode cX6_readOrderLine 137 = .ok (.getfield 31, 3) := by decide +kernel
theorem dX6_readOrderLine_140 : decode cX6_readOrderLine 140 = .ok (.iload_n 1, 1) := by decide +kernel
theorem dX6_readOrderLine_141 : decode cX6_readOrderLine 141 = .ok (.aload_n 0, 1) := by decide +kernel
theorem dX6_readOrderLine_142 : decode cX6_readOrderLine 142 = .ok (.getfield 37, 3) := by decide +kernel
theorem dX6_readOrderLine_145 : decode cX6_readOrderLine 145 = .ok (.getfield 64, 3) := by decide +kernel
theorem dX6_readOrderLine_148 : decode cX6_readOrderLine 148 = .ok (.iastore, 1) := by decide +kernel
theorem dX6_readOrderLine_149 : decode cX6_readOrderLine 149 = .ok (.aload_n 0, 1) := by decide +kernel
theorem dX6_readOrderLine_150 : decode cX6_readOrderLine 150 = .ok (.getfield 37, 3) := by decide +kernel
theorem dX6_readOrderLine_153 : decode cX6_readOrderLine 153 = .ok (.iconst 1, 1) := by decide +kernel
theorem dX6_readOrderLine_154 : decode cX6_readOrderLine 154 = .ok (.invokevirtual 84, 3) := by decide +kernel
theorem dX6_readOrderLine_157 : decode cX6_readOrderLine 157 = .ok (.ifCond .ne 5, 3) := by decide +kernel
theorem dX6_readOrderLine_160 : decode cX6_readOrderLine 160 = .ok (.iconst 0, 1) := by decide +kernel
theorem dX6_readOrderLine_161 : decode cX6_readOrderLine 161 = .ok (.ireturn, 1) := by decide +kernel
theorem dX6_readOrderLine_162 : decode cX6_readOrderLine 162 = .ok (.aload_n 0, 1) := by decide +kernel
theorem dX6_readOrderLine_163 : decode cX6_readOrderLine 163 = .ok (.getfield 37, 3) := by decide +kernel
theorem dX6_readOrderLine_166 : decode cX6_readOrderLine 166 = .ok (.bipush 59, 2) := by decide +kernel
theorem dX6_readOrderLine_168 : decode cX6_readOrderLine 168 = .ok (.invokevirtual 84, 3) := by decide +kernel
theorem dX6_readOrderLine_171 : decode cX6_readOrderLine 171 = .ok (.ireturn, 1) := by decide +kernel
theorem dX6_opOnTape_0 : decode cX6_opOnTape 0 = .ok (.aload_n 0, 1) := by decide +kernel
theorem dX6_opOnTape_1 : decode cX6_opOnTape 1 = .ok (.getfield 37, 3) := by decide +kernel
theorem dX6_opOnTape_4 : decode cX6_opOnTape 4 = .ok (.ldc 103, 2) := by decide +kernel
theorem dX6_opOnTape_6 : decode cX6_opOnTape 6 = .ok (.invokevirtual 99, 3) := by decide +kernel
theorem dX6_opOnTape_9 : decode cX6_opOnTape 9 = .ok (.ifCond .eq 5, 3) := by decide +kernel
theorem dX6_opOnTape_12 : decode cX6_opOnTape 12 = .ok (.iconst 0, 1) := by decide +kernel
theorem dX6_opOnTape_13 : decode cX6_opOnTape 13 = .ok (.ireturn, 1) := by decide +kernel
theorem dX6_opOnTape_14 : decode cX6_opOnTape 14 = .ok (.aload_n 0, 1) := by decide +kernel
theorem dX6_opOnTape_15 : decode cX6_opOnTape 15 = .ok (.getfield 37, 3) := by decide +kernel
theorem dX6_opOnTape_18 : decode cX6_opOnTape 18 = .ok (.ldc 105, 2) := by decide +kernel
theorem dX6_opOnTape_20 : decode cX6_opOnTape 20 = .ok (.invokevirtual 99, 3) := by decide +kernel
theorem dX6_opOnTape_23 : decode cX6_opOnTape 23 = .ok (.ifCond .eq 5, 3) := by decide +kernel
theorem dX6_opOnTape_26 : decode cX6_opOnTape 26 = .ok (.iconst 1, 1) := by decide +kernel
theorem dX6_opOnTape_27 : decode cX6_opOnTape 27 = .ok (.ireturn, 1) := by decide +kernel
theorem dX6_opOnTape_28 : decode cX6_opOnTape 28 = .ok (.aload_n 0, 1) := by decide +kernel
theorem dX6_opOnTape_29 : decode cX6_opOnTape 29 = .ok (.getfield 37, 3) := by decide +kernel
theorem dX6_opOnTape_32 : decode cX6_opOnTape 32 = .ok (.ldc 107, 2) := by decide +kernel
theorem dX6_opOnTape_34 : decode cX6_opOnTape 34 = .ok (.invokevirtual 99, 3) := by decide +kernel
theorem dX6_opOnTape_37 : decode cX6_opOnTape 37 = .ok (.ifCond .eq 5, 3) := by decide +kernel
theorem dX6_opOnTape_40 : decode cX6_opOnTape 40 = .ok (.iconst 2, 1) := by decide +kernel
theorem dX6_opOnTape_41 : decode cX6_opOnTape 41 = .ok (.ireturn, 1) := by decide +kernel
theorem dX6_opOnTape_42 : decode cX6_opOnTape 42 = .ok (.aload_n 0, 1) := by decide +kernel
theorem dX6_opOnTape_43 : decode cX6_opOnTape 43 = .ok (.getfield 37, 3) := by decide +kernel
theorem dX6_opOnTape_46 : decode cX6_opOnTape 46 = .ok (.ldc 109, 2) := by decide +kernel
theorem dX6_opOnTape_48 : decode cX6_opOnTape 48 = .ok (.invokevirtual 99, 3) := by decide +kernel
theorem dX6_opOnTape_51 : decode cX6_opOnTape 51 = .ok (.ifCond .eq 5, 3) := by decide +kernel
theorem dX6_opOnTape_54 : decode cX6_opOnTape 54 = .ok (.iconst 3, 1) := by decide +kernel
theorem dX6_opOnTape_55 : decode cX6_opOnTape 55 = .ok (.ireturn, 1) := by decide +kernel
theorem dX6_opOnTape_56 : decode cX6_opOnTape 56 = .ok (.aload_n 0, 1) := by decide +kernel
theorem dX6_opOnTape_57 : decode cX6_opOnTape 57 = .ok (.getfield 37, 3) := by decide +kernel
theorem dX6_opOnTape_60 : decode cX6_opOnTape 60 = .ok (.ldc 111, 2) := by decide +kernel
theorem dX6_opOnTape_62 : decode cX6_opOnTape 62 = .ok (.invokevirtual 99, 3) := by decide +kernel
theorem dX6_opOnTape_65 : decode cX6_opOnTape 65 = .ok (.ifCond .eq 5, 3) := by decide +kernel
theorem dX6_opOnTape_68 : decode cX6_opOnTape 68 = .ok (.iconst 4, 1) := by decide +kernel
theorem dX6_opOnTape_69 : decode cX6_opOnTape 69 = .ok (.ireturn, 1) := by decide +kernel
theorem dX6_opOnTape_70 : decode cX6_opOnTape 70 = .ok (.aload_n 0, 1) := by decide +kernel
theorem dX6_opOnTape_71 : decode cX6_opOnTape 71 = .ok (.getfield 37, 3) := by decide +kernel
theorem dX6_opOnTape_74 : decode cX6_opOnTape 74 = .ok (.ldc 113, 2) := by decide +kernel
theorem dX6_opOnTape_76 : decode cX6_opOnTape 76 = .ok (.invokevirtual 99, 3) := by decide +kernel
theorem dX6_opOnTape_79 : decode cX6_opOnTape 79 = .ok (.ifCond .eq 5, 3) := by decide +kernel
theorem dX6_opOnTape_82 : decode cX6_opOnTape 82 = .ok (.iconst 5, 1) := by decide +kernel
theorem dX6_opOnTape_83 : decode cX6_opOnTape 83 = .ok (.ireturn, 1) := by decide +kernel
theorem dX6_opOnTape_84 : decode cX6_opOnTape 84 = .ok (.aload_n 0, 1) := by decide +kernel
theorem dX6_opOnTape_85 : decode cX6_opOnTape 85 = .ok (.getfield 37, 3) := by decide +kernel
theorem dX6_opOnTape_88 : decode cX6_opOnTape 88 = .ok (.ldc 115, 2) := by decide +kernel
theorem dX6_opOnTape_90 : decode cX6_opOnTape 90 = .ok (.invokevirtual 99, 3) := by decide +kernel
theorem dX6_opOnTape_93 : decode cX6_opOnTape 93 = .ok (.ifCond .eq 6, 3) := by decide +kernel
theorem dX6_opOnTape_96 : decode cX6_opOnTape 96 = .ok (.bipush 6, 2) := by decide +kernel
theorem dX6_opOnTape_98 : decode cX6_opOnTape 98 = .ok (.ireturn, 1) := by decide +kernel
theorem dX6_opOnTape_99 : decode cX6_opOnTape 99 = .ok (.aload_n 0, 1) := by decide +kernel
theorem dX6_opOnTape_100 : decode cX6_opOnTape 100 = .ok (.getfield 37, 3) := by decide +kernel
theorem dX6_opOnTape_103 : decode cX6_opOnTape 103 = .ok (.ldc 117, 2) := by decide +kernel
theorem dX6_opOnTape_105 : decode cX6_opOnTape 105 = .ok (.invokevirtual 99, 3) := by decide +kernel
theorem dX6_opOnTape_108 : decode cX6_opOnTape 108 = .ok (.ifCond .eq 6, 3) := by decide +kernel
theorem dX6_opOnTape_111 : decode cX6_opOnTape 111 = .ok (.bipush 7, 2) := by decide +kernel
theorem dX6_opOnTape_113 : decode cX6_opOnTape 113 = .ok (.ireturn, 1) := by decide +kernel
theorem dX6_opOnTape_114 : decode cX6_opOnTape 114 = .ok (.aload_n 0, 1) := by decide +kernel
theorem dX6_opOnTape_115 : decode cX6_opOnTape 115 = .ok (.getfield 37, 3) := by decide +kernel
theorem dX6_opOnTape_118 : decode cX6_opOnTape 118 = .ok (.ldc 119, 2) := by decide +kernel
theorem dX6_opOnTape_120 : decode cX6_opOnTape 120 = .ok (.invokevirtual 99, 3) := by decide +kernel
theorem dX6_opOnTape_123 : decode cX6_opOnTape 123 = .ok (.ifCond .eq 6, 3) := by decide +kernel
theorem dX6_opOnTape_126 : decode cX6_opOnTape 126 = .ok (.bipush 8, 2) := by decide +kernel
theorem dX6_opOnTape_128 : decode cX6_opOnTape 128 = .ok (.ireturn, 1) := by decide +kernel
theorem dX6_opOnTape_129 : decode cX6_opOnTape 129 = .ok (.aload_n 0, 1) := by decide +kernel
theorem dX6_opOnTape_130 : decode cX6_opOnTape 130 = .ok (.getfield 37, 3) := by decide +kernel
theorem dX6_opOnTape_133 : decode cX6_opOnTape 133 = .ok (.ldc 121, 2) := by decide +kernel
theorem dX6_opOnTape_135 : decode cX6_opOnTape 135 = .ok (.invokevirtual 99, 3) := by decide +kernel
theorem dX6_opOnTape_138 : decode cX6_opOnTape 138 = .ok (.ifCond .eq 8, 3) := by decide +kernel
theorem dX6_opOnTape_141 : decode cX6_opOnTape 141 = .ok (.bipush 9, 2) := by decide +kernel
theorem dX6_opOnTape_143 : decode cX6_opOnTape 143 = .ok (.goto 4, 3) := by decide +kernel
theorem dX6_opOnTape_146 : decode cX6_opOnTape 146 = .ok (.iconst (-1), 1) := by decide +kernel
theorem dX6_opOnTape_147 : decode cX6_opOnTape 147 = .ok (.ireturn, 1) := by decide +kernel
theorem dX6_resolve_0 : decode cX6_resolve 0 = .ok (.aload_n 0, 1) := by decide +kernel
theorem dX6_resolve_1 : decode cX6_resolve 1 = .ok (.getfield 22, 3) := by decide +kernel
theorem dX6_resolve_4 : decode cX6_resolve 4 = .ok (.iload_n 1, 1) := by decide +kernel
theorem dX6_resolve_5 : decode cX6_resolve 5 = .ok (.iaload, 1) := by decide +kernel
theorem dX6_resolve_6 : decode cX6_resolve 6 = .ok (.ifCond .ne 7, 3) := by decide +kernel
theorem dX6_resolve_9 : decode cX6_resolve 9 = .ok (.iconst 0, 1) := by decide +kernel
theorem dX6_resolve_10 : decode cX6_resolve 10 = .ok (.goto 13, 3) := by decide +kernel
theorem dX6_resolve_13 : decode cX6_resolve 13 = .ok (.aload_n 0, 1) := by decide +kernel
theorem dX6_resolve_14 : decode cX6_resolve 14 = .ok (.aload_n 0, 1) := by decide +kernel
theorem dX6_resolve_15 : decode cX6_resolve 15 = .ok (.getfield 22, 3) := by decide +kernel
theorem dX6_resolve_18 : decode cX6_resolve 18 = .ok (.iload_n 1, 1) := by decide +kernel
theorem dX6_resolve_19 : decode cX6_resolve 19 = .ok (.iaload, 1) := by decide +kernel
theorem dX6_resolve_20 : decode cX6_resolve 20 = .ok (.invokevirtual 74, 3) := by decide +kernel
theorem dX6_resolve_23 : decode cX6_resolve 23 = .ok (.istore_n 2, 1) := by decide +kernel
theorem dX6_resolve_24 : decode cX6_resolve 24 = .ok (.iload_n 2, 1) := by decide +kernel
theorem dX6_resolve_25 : decode cX6_resolve 25 = .ok (.iconst (-1), 1) := by decide +kernel
theorem dX6_resolve_26 : decode cX6_resolve 26 = .ok (.if_icmp .ne 18, 3) := by decide +kernel
theorem dX6_resolve_29 : decode cX6_resolve 29 = .ok (.aload_n 0, 1) := by decide +kernel
theorem dX6_resolve_30 : decode cX6_resolve 30 = .ok (.getfield 37, 3) := by decide +kernel
theorem dX6_resolve_33 : decode cX6_resolve 33 = .ok (.iconst 5, 1) := by decide +kernel
theorem dX6_resolve_34 : decode cX6_resolve 34 = .ok (.aload_n 0, 1) := by decide +kernel
theorem dX6_resolve_35 : decode cX6_resolve 35 = .ok (.getfield 28, 3) := by decide +kernel
theorem dX6_resolve_38 : decode cX6_resolve 38 = .ok (.iload_n 1, 1) := by decide +kernel
theorem dX6_resolve_39 : decode cX6_resolve 39 = .ok (.iaload, 1) := by decide +kernel
theorem dX6_resolve_40 : decode cX6_resolve 40 = .ok (.invokevirtual 67, 3) := by decide +kernel
theorem dX6_resolve_43 : decode cX6_resolve 43 = .ok (.ireturn, 1) := by decide +kernel
theorem dX6_resolve_44 : decode cX6_resolve 44 = .ok (.iload_n 1, 1) := by decide +kernel
theorem dX6_resolve_45 : decode cX6_resolve 45 = .ok (.iconst 1, 1) := by decide +kernel
theorem dX6_resolve_46 : decode cX6_resolve 46 = .ok (.iadd, 1) := by decide +kernel
theorem dX6_resolve_47 : decode cX6_resolve 47 = .ok (.aload_n 0, 1) := by decide +kernel
theorem dX6_resolve_48 : decode cX6_resolve 48 = .ok (.getfield 12, 3) := by decide +kernel
theorem dX6_resolve_51 : decode cX6_resolve 51 = .ok (.getfield 57, 3) := by decide +kernel
theorem dX6_resolve_54 : decode cX6_resolve 54 = .ok (.iconst 1, 1) := by decide +kernel
theorem dX6_resolve_55 : decode cX6_resolve 55 = .ok (.isub, 1) := by decide +kernel
theorem dX6_resolve_56 : decode cX6_resolve 56 = .ok (.invokestatic 123, 3) := by decide +kernel
theorem dX6_resolve_59 : decode cX6_resolve 59 = .ok (.istore_n 3, 1) := by decide +kernel
theorem dX6_resolve_60 : decode cX6_resolve 60 = .ok (.aload_n 0, 1) := by decide +kernel
theorem dX6_resolve_61 : decode cX6_resolve 61 = .ok (.getfield 25, 3) := by decide +kernel
theorem dX6_resolve_64 : decode cX6_resolve 64 = .ok (.iload_n 1, 1) := by decide +kernel
theorem dX6_resolve_65 : decode cX6_resolve 65 = .ok (.iaload, 1) := by decide +kernel
theorem dX6_resolve_66 : decode cX6_resolve 66 = .ok (.ifCond .eq 14, 3) := by decide +kernel
theorem dX6_resolve_69 : decode cX6_resolve 69 = .ok (.aload_n 0, 1) := by decide +kernel
theorem dX6_resolve_70 : decode cX6_resolve 70 = .ok (.aload_n 0, 1) := by decide +kernel
theorem dX6_resolve_71 : decode cX6_resolve 71 = .ok (.getfield 25, 3) := by decide +kernel
theorem dX6_resolve_74 : decode cX6_resolve 74 = .ok (.iload_n 1, 1) := by decide +kernel
theorem dX6_resolve_75 : decode cX6_resolve 75 = .ok (.iaload, 1) := by decide +kernel
theorem dX6_resolve_76 : decode cX6_resolve 76 = .ok (.invokevirtual 74, 3) := by decide +kernel
theorem dX6_resolve_79 : decode cX6_resolve 79 = .ok (.istore_n 3, 1) := by decide +kernel
theorem dX6_resolve_80 : decode cX6_resolve 80 = .ok (.iload_n 3, 1) := by decide +kernel
theorem dX6_resolve_81 : decode cX6_resolve 81 = .ok (.iconst (-1), 1) := by decide +kernel
theorem dX6_resolve_82 : decode cX6_resolve 82 = .ok (.if_icmp .ne 18, 3) := by decide +kernel
theorem dX6_resolve_85 : decode cX6_resolve 85 = .ok (.aload_n 0, 1) := by decide +kernel
theorem dX6_resolve_86 : decode cX6_resolve 86 = .ok (.getfield 37, 3) := by decide +kernel
theorem dX6_resolve_89 : decode cX6_resolve 89 = .ok (.iconst 5, 1) := by decide +kernel
theorem dX6_resolve_90 : decode cX6_resolve 90 = .ok (.aload_n 0, 1) := by decide +kernel
theorem dX6_resolve_91 : decode cX6_resolve 91 = .ok (.getfield 31, 3) := by decide +kernel
theorem dX6_resolve_94 : decode cX6_resolve 94 = .ok (.iload_n 1, 1) := by decide +kernel
theorem dX6_resolve_95 : decode cX6_resolve 95 = .ok (.iaload, 1) := by decide +kernel
theorem dX6_resolve_96 : decode cX6_resolve 96 = .ok (.invokevirtual 67, 3) := by decide +kernel
theorem dX6_resolve_99 : decode cX6_resolve 99 = .ok (.ireturn, 1) := by decide +kernel
theorem dX6_resolve_100 : decode cX6_resolve 100 = .ok (.aload_n 0, 1) := by decide +kernel
theorem dX6_resolve_101 : decode cX6_resolve 101 = .ok (.getfield 12, 3) := by decide +kernel
theorem dX6_resolve_104 : decode cX6_resolve 104 = .ok (.getfield 90, 3) := by decide +kernel
theorem dX6_resolve_107 : decode cX6_resolve 107 = .ok (.iload_n 1, 1) := by decide +kernel
theorem dX6_resolve_108 : decode cX6_resolve 108 = .ok (.aload_n 0, 1) := by decide +kernel
theorem dX6_resolve_109 : decode cX6_resolve 109 = .ok (.getfield 34, 3) := by decide +kernel
theorem dX6_resolve_112 : decode cX6_resolve 112 = .ok (.iload_n 1, 1) := by decide +kernel
theorem dX6_resolve_113 : decode cX6_resolve 113 = .ok (.iaload, 1) := by decide +kernel
theorem dX6_resolve_114 : decode cX6_resolve 114 = .ok (.sipush 10000, 3) := by decide +kernel
theorem dX6_resolve_117 : decode cX6_resolve 117 = .ok (.imul, 1) := by decide +kernel
theorem dX6_resolve_118 : decode cX6_resolve 118 = .ok (.iload_n 2, 1) := by decide +kernel
theorem dX6_resolve_119 : decode cX6_resolve 119 = .ok (.bipush 100, 2) := by decide +kernel
theorem dX6_resolve_121 : decode cX6_resolve 121 = .ok (.imul, 1) := by decide +kernel
theorem dX6_resolve_122 : decode cX6_resolve 122 = .ok (.iadd, 1) := by decide +kernel
theorem dX6_resolve_123 : decode cX6_resolve 123 = .ok (.iload_n 3, 1) := by decide +kernel
theorem dX6_resolve_124 : decode cX6_resolve 124 = .ok (.iadd, 1) := by decide +kernel
theorem dX6_resolve_125 : decode cX6_resolve 125 = .ok (.iastore, 1) := by decide +kernel
theorem dX6_resolve_126 : decode cX6_resolve 126 = .ok (.iconst 1, 1) := by decide +kernel
theorem dX6_resolve_127 : decode cX6_resolve 127 = .ok (.ireturn, 1) := by decide +kernel
theorem dX6_find_0 : decode cX6_find 0 = .ok (.iconst 0, 1) := by decide +kernel
theorem dX6_find_1 : decode cX6_find 1 = .ok (.istore_n 2, 1) := by decide +kernel
theorem dX6_find_2 : decode cX6_find 2 = .ok (.iload_n 2, 1) := by decide +kernel
theorem dX6_find_3 : decode cX6_find 3 = .ok (.aload_n 0, 1) := by decide +kernel
theorem dX6_find_4 : decode cX6_find 4 = .ok (.getfield 12, 3) := by decide +kernel
theorem dX6_find_7 : decode cX6_find 7 = .ok (.getfield 57, 3) := by decide +kernel
theorem dX6_find_10 : decode cX6_find 10 = .ok (.if_icmp .ge 27, 3) := by decide +kernel
theorem dX6_find_13 : decode cX6_find 13 = .ok (.iload_n 2, 1) := by decide +kernel
theorem dX6_find_14 : decode cX6_find 14 = .ok (.bipush 40, 2) := by decide +kernel
theorem dX6_find_16 : decode cX6_find 16 = .ok (.if_icmp .ge 21, 3) := by decide +kernel
theorem dX6_find_19 : decode cX6_find 19 = .ok (.aload_n 0, 1) := by decide +kernel
theorem dX6_find_20 : decode cX6_find 20 = .ok (.getfield 18, 3) := by decide +kernel
theorem dX6_find_23 : decode cX6_find 23 = .ok (.iload_n 2, 1) := by decide +kernel
theorem dX6_find_24 : decode cX6_find 24 = .ok (.iaload, 1) := by decide +kernel
theorem dX6_find_25 : decode cX6_find 25 = .ok (.iload_n 1, 1) := by decide +kernel
theorem dX6_find_26 : decode cX6_find 26 = .ok (.if_icmp .ne 5, 3) := by decide +kernel
theorem dX6_find_29 : decode cX6_find 29 = .ok (.iload_n 2, 1) := by decide +kernel
theorem dX6_find_30 : decode cX6_find 30 = .ok (.ireturn, 1) := by decide +kernel
theorem dX6_find_31 : decode cX6_find 31 = .ok (.iinc 2 1, 3) := by decide +kernel
theorem dX6_find_34 : decode cX6_find 34 = .ok (.goto (-32), 3) := by decide +kernel
theorem dX6_find_37 : decode cX6_find 37 = .ok (.iconst (-1), 1) := by decide +kernel
theorem dX6_find_38 : decode cX6_find 38 = .ok (.ireturn, 1) := by decide +kernel
theorem dX7_init_0 : decode cX7_init 0 = .ok (.aload_n 0, 1) := by decide +kernel
theorem dX7_init_1 : decode cX7_init 1 = .ok (.invokespecial 3, 3) := by decide +kernel
theorem dX7_init_4 : decode cX7_init 4 = .ok (.aload_n 0, 1) := by decide +kernel
theorem dX7_init_5 : decode cX7_init 5 = .ok (.bipush 100, 2) := by decide +kernel
theorem dX7_init_7 : decode cX7_init 7 = .ok (.newarray .int, 2) := by decide +kernel
theorem dX7_init_9 : decode cX7_init 9 = .ok (.putfield 11, 3) := by decide +kernel
theorem dX7_init_12 : decode cX7_init 12 = .ok (.aload_n 0, 1) := by decide +kernel
theorem dX7_init_13 : decode cX7_init 13 = .ok (.bipush 40, 2) := by decide +kernel
theorem dX7_init_15 : decode cX7_init 15 = .ok (.newarray .int, 2) := by decide +kernel
theorem dX7_init_17 : decode cX7_init 17 = .ok (.putfield 17, 3) := by decide +kernel
theorem dX7_init_20 : decode cX7_init 20 = .ok (.aload_n 0, 1) := by decide +kernel
theorem dX7_init_21 : decode cX7_init 21 = .ok (.bipush 40, 2) := by decide +kernel
theorem dX7_init_23 : decode cX7_init 23 = .ok (.newarray .int, 2) := by decide +kernel
theorem dX7_init_25 : decode cX7_init 25 = .ok (.putfield 20, 3) := by decide +kernel
theorem dX7_init_28 : decode cX7_init 28 = .ok (.aload_n 0, 1) := by decide +kernel
theorem dX7_init_29 : decode cX7_init 29 = .ok (.bipush 40, 2) := by decide +kernel
theorem dX7_init_31 : decode cX7_init 31 = .ok (.newarray .int, 2) := by decide +kernel
theorem dX7_init_33 : decode cX7_init 33 = .ok (.putfield 23, 3) := by decide +kernel
theorem dX7_init_36 : decode cX7_init 36 = .ok (.aload_n 0, 1) := by decide +kernel
theorem dX7_init_37 : decode cX7_init 37 = .ok (.bipush 40, 2) := by decide +kernel
theorem dX7_init_39 : decode cX7_init 39 = .ok (.newarray .int, 2) := by decide +kernel
theorem dX7_init_41 : decode cX7_init 41 = .ok (.putfield 26, 3) := by decide +kernel
theorem dX7_init_44 : decode cX7_init 44 = .ok (.aload_n 0, 1) := by decide +kernel
theorem dX7_init_45 : decode cX7_init 45 = .ok (.bipush 40, 2) := by decide +kernel
theorem dX7_init_47 : decode cX7_init 47 = .ok (.newarray .int, 2) := by decide +kernel
theorem dX7_init_49 : decode cX7_init 49 = .ok (.putfield 29, 3) := by decide +kernel
theorem dX7_init_52 : decode cX7_init 52 = .ok (.aload_n 0, 1) := by decide +kernel
theorem dX7_init_53 : decode cX7_init 53 = .ok (.bipush 40, 2) := by decide +kernel
theorem dX7_init_55 : decode cX7_init 55 = .ok (.newarray .int, 2) := by decide +kernel
theorem dX7_init_57 : decode cX7_init 57 = .ok (.putfield 32, 3) := by decide +kernel
theorem dX7_init_60 : decode cX7_init 60 = .ok (.aload_n 0, 1) := by decide +kernel
theorem dX7_init_61 : decode cX7_init 61 = .ok (.bipush 40, 2) := by decide +kernel
theorem dX7_init_63 : decode cX7_init 63 = .ok (.newarray .int, 2) := by decide +kernel
theorem dX7_init_65 : decode cX7_init 65 = .ok (.putfield 35, 3) := by decide +kernel
theorem dX7_init_68 : decode cX7_init 68 = .ok (.aload_n 0, 1) := by decide +kernel
theorem dX7_init_69 : decode cX7_init 69 = .ok (.bipush 40, 2) := by decide +kernel
theorem dX7_init_71 : decode cX7_init 71 = .ok (.newarray .int, 2) := by decide +kernel
theorem dX7_init_73 : decode cX7_init 73 = .ok (.putfield 38, 3) := by decide +kernel
theorem dX7_init_76 : decode cX7_init 76 = .ok (.aload_n 0, 1) := by decide +kernel
theorem dX7_init_77 : decode cX7_init 77 = .ok (.bipush 40, 2) := by decide +kernel
theorem dX7_init_79 : decode cX7_init 79 = .ok (.newarray .int, 2) := by decide +kernel
theorem dX7_init_81 : decode cX7_init 81 = .ok (.putfield 41, 3) := by decide +kernel
theorem dX7_init_84 : decode cX7_init 84 = .ok (.return_, 1) := by decide +kernel
theorem dX7_clear_0 : decode cX7_clear 0 = .ok (.aload_n 0, 1) := by decide +kernel
theorem dX7_clear_1 : decode cX7_clear 1 = .ok (.iconst 0, 1) := by decide +kernel
theorem dX7_clear_2 : decode cX7_clear 2 = .ok (.putfield 44, 3) := by decide +kernel
theorem dX7_clear_5 : decode cX7_clear 5 = .ok (.aload_n 0, 1) := by decide +kernel
theorem dX7_clear_6 : decode cX7_clear 6 = .ok (.iconst 0, 1) := by decide +kernel
theorem dX7_clear_7 : decode cX7_clear 7 = .ok (.putfield 48, 3) := by decide +kernel
theorem dX7_clear_10 : decode cX7_clear 10 = .ok (.return_, 1) := by decide +kernel
theorem dX7_write_0 : decode cX7_write 0 = .ok (.aload_n 0, 1) := by decide +kernel
theorem dX7_write_1 : decode cX7_write 1 = .ok (.iconst 1, 1) := by decide +kernel
theorem dX7_write_2 : decode cX7_write 2 = .ok (.putfield 44, 3) := by decide +kernel
theorem dX7_write_5 : decode cX7_write 5 = .ok (.aload_n 0, 1) := by decide +kernel
theorem dX7_write_6 : decode cX7_write 6 = .ok (.aload_n 1, 1) := by decide +kernel
theorem dX7_write_7 : decode cX7_write 7 = .ok (.getfield 52, 3) := by decide +kernel
theorem dX7_write_10 : decode cX7_write 10 = .ok (.putfield 55, 3) := by decide +kernel
theorem dX7_write_13 : decode cX7_write 13 = .ok (.aload_n 0, 1) := by decide +kernel
theorem dX7_write_14 : decode cX7_write 14 = .ok (.aload_n 1, 1) := by decide +kernel
theorem dX7_write_15 : decode cX7_write 15 = .ok (.getfield 56, 3) := by decide +kernel
theorem dX7_write_18 : decode cX7_write 18 = .ok (.putfield 59, 3) := by decide +kernel
theorem dX7_write_21 : decode cX7_write 21 = .ok (.aload_n 0, 1) := by decide +kernel
theorem dX7_write_22 : decode cX7_write 22 = .ok (.aload_n 1, 1) := by decide +kernel
theorem dX7_write_23 : decode cX7_write 23 = .ok (.getfield 60, 3) := by decide +kernel
theorem dX7_write_26 : decode cX7_write 26 = .ok (.putfield 63, 3) := by decide +kernel
theorem dX7_write_29 : decode cX7_write 29 = .ok (.aload_n 0, 1) := by decide +kernel
theorem dX7_write_30 : decode cX7_write 30 = .ok (.aload_n 1, 1) := by decide +kernel
theorem dX7_write_31 : decode cX7_write 31 = .ok (.getfield 64, 3) := by decide +kernel
theorem dX7_write_34 : decode cX7_write 34 = .ok (.putfield 67, 3) := by decide +kernel
theorem dX7_write_37 : decode cX7_write 37 = .ok (.aload_n 1, 1) := by decide +kernel
theorem dX7_write_38 : decode cX7_write 38 = .ok (.getfield 68, 3) := by decide +kernel
theorem dX7_write_41 : decode cX7_write 41 = .ok (.iconst 0, 1) := by decide +kernel
theorem dX7_write_42 : decode cX7_write 42 = .ok (.aload_n 0, 1) := by decide +kernel
theorem dX7_write_43 : decode cX7_write 43 = .ok (.getfield 11, 3) := by decide +kernel
theorem dX7_write_46 : decode cX7_write 46 = .ok (.iconst 0, 1) := by decide +kernel
theorem dX7_write_47 : decode cX7_write 47 = .ok (.bipush 100, 2) := by decide +kernel
theorem dX7_write_49 : decode cX7_write 49 = .ok (.invokestatic 69, 3) := by decide +kernel
theorem dX7_write_52 : decode cX7_write 52 = .ok (.iconst 0, 1) := by decide +kernel
theorem dX7_write_53 : decode cX7_write 53 = .ok (.istore 4, 2) := by decide +kernel
theorem dX7_write_55 : decode cX7_write 55 = .ok (.iload 4, 2) := by decide +kernel
theorem dX7_write_57 : decode cX7_write 57 = .ok (.bipush 40, 2) := by decide +kernel
theorem dX7_write_59 : decode cX7_write 59 = .ok (.if_icmp .ge 52, 3) := by decide +kernel
theorem dX7_write_62 : decode cX7_write 62 = .ok (.aload_n 0, 1) := by decide +kernel
theorem dX7_write_63 : decode cX7_write 63 = .ok (.getfield 26, 3) := by decide +kernel
theorem dX7_write_66 : decode cX7_write 66 = .ok (.iload 4, 2) := by decide +kernel
theorem dX7_write_68 : decode cX7_write 68 = .ok (.aload_n 1, 1) := by decide +kernel
theorem dX7_write_69 : decode cX7_write 69 = .ok (.getfield 75, 3) := by decide +kernel
theorem dX7_write_72 : decode cX7_write 72 = .ok (.iload 4, 2) := by decide +kernel
theorem dX7_write_74 : decode cX7_write 74 = .ok (.iaload, 1) := by decide +kernel
theorem dX7_write_75 : decode cX7_write 75 = .ok (.iastore, 1) := by decide +kernel
theorem dX7_write_76 : decode cX7_write 76 = .ok (.aload_n 0, 1) := by decide +kernel
theorem dX7_write_77 : decode cX7_write 77 = .ok (.getfield 29, 3) := by decide +kernel
theorem dX7_write_80 : decode cX7_write 80 = .ok (.iload 4, 2) := by decide +kernel
theorem dX7_write_82 : decode cX7_write 82 = .ok (.aload_n 1, 1) := by decide +kernel
theorem dX7_write_83 : decode cX7_write 83 = .ok (.getfield 75, 3) := by decide +kernel
theorem dX7_write_86 : decode cX7_write 86 = .ok (.iload 4, 2) := by decide +kernel
theorem dX7_write_88 : decode cX7_write 88 = .ok (.iaload, 1) := by decide +kernel
theorem dX7_write_89 : decode cX7_write 89 = .ok (.aload_n 2, 1) := by decide +kernel
theorem dX7_write_90 : decode cX7_write 90 = .ok (.getfield 76, 3) := by decide +kernel
theorem dX7_write_93 : decode cX7_write 93 = .ok (.iload 4, 2) := by decide +kernel
theorem dX7_write_95 : decode cX7_write 95 = .ok (.iaload, 1) := by decide +kernel
theorem dX7_write_96 : decode cX7_write 96 = .ok (.if_icmp .eq 7, 3) := by decide +kernel
theorem dX7_write_99 : decode cX7_write 99 = .ok (.iconst 1, 1) := by decide +kernel
theorem dX7_write_100 : decode cX7_write 100 = .ok (.goto 4, 3) := by decide +kernel
theorem dX7_write_103 : decode cX7_write 103 = .ok (.iconst 0, 1) := by decide +kernel
theorem dX7_write_104 : decode cX7_write 104 = .ok (.iastore, 1) := by decide +kernel
theorem dX7_write_105 : decode cX7_write 105 = .ok (.iinc 4 1, 3) := by decide +kernel
theorem dX7_write_108 : decode cX7_write 108 = .ok (.goto (-53), 3) := by decide +kernel
theorem dX7_write_111 : decode cX7_write 111 = .ok (.aload_n 0, 1) := by decide +kernel
theorem dX7_write_112 : decode cX7_write 112 = .ok (.getfield 17, 3) := by decide +kernel
theorem dX7_write_115 : decode cX7_write 115 = .ok (.iconst 0, 1) := by decide +kernel
theorem dX7_write_116 : decode cX7_write 116 = .ok (.invokestatic 79, 3) := by decide +kernel
theorem dX7_write_119 : decode cX7_write 119 = .ok (.aload_n 0, 1) := by decide +kernel
theorem dX7_write_120 : decode cX7_write 120 = .ok (.getfield 20, 3) := by decide +kernel
theorem dX7_write_123 : decode cX7_write 123 = .ok (.iconst 0, 1) := by decide +kernel
theorem dX7_write_124 : decode cX7_write 124 = .ok (.invokestatic 79, 3) := by decide +kernel
theorem dX7_write_127 : decode cX7_write 127 = .ok (.aload_n 0, 1) := by decide +kernel
theorem dX7_write_128 : decode cX7_write 128 = .ok (.getfield 23, 3) := by decide +kernel
theorem dX7_write_131 : decode cX7_write 131 = .ok (.iconst 0, 1) := by decide +kernel
theorem dX7_write_132 : decode cX7_write 132 = .ok (.invokestatic 79, 3) := by decide +kernel
theorem dX7_write_135 : decode cX7_write 135 = .ok (.aload_n 0, 1) := by decide +kernel
theorem dX7_write_136 : decode cX7_write 136 = .ok (.getfield 32, 3) := by decide +kernel
theorem dX7_write_139 : decode cX7_write 139 = .ok (.iconst (-1), 1) := by decide +kernel
theorem dX7_write_140 : decode cX7_write 140 = .ok (.invokestatic 79, 3) := by decide +kernel
theorem dX7_write_143 : decode cX7_write 143 = .ok (.aload_n 0, 1) := by decide +kernel
theorem dX7_write_144 : decode cX7_write 144 = .ok (.getfield 35, 3) := by decide +kernel
theorem dX7_write_147 : decode cX7_write 147 = .ok (.iconst (-1), 1) := by decide +kernel
theorem dX7_write_148 : decode cX7_write 148 = .ok (.invokestatic 79, 3) := by decide +kernel
theorem dX7_write_151 : decode cX7_write 151 = .ok (.aload_n 0, 1) := by decide +kernel
theorem dX7_write_152 : decode cX7_write 152 = .ok (.aload_n 1, 1) := by decide +kernel
theorem dX7_write_153 : decode cX7_write 153 = .ok (.aload_n 3, 1) := by decide +kernel
theorem dX7_write_154 : decode cX7_write 154 = .ok (.invokevirtual 85, 3) := by decide +kernel
theorem dX7_write_157 : decode cX7_write 157 = .ok (.aload_n 0, 1) := by decide +kernel
theorem dX7_write_158 : decode cX7_write 158 = .ok (.invokevirtual 89, 3) := by decide +kernel
theorem dX7_write_161 : decode cX7_write 161 = .ok (.return_, 1) := by decide +kernel
theorem dX7_countSteps_0 : decode cX7_countSteps 0 = .ok (.aload_n 0, 1) := by decide +kernel
theorem dX7_countSteps_1 : decode cX7_countSteps 1 = .ok (.iconst 0, 1) := by decide +kernel
theorem dX7_countSteps_2 : decode cX7_countSteps 2 = .ok (.putfield 92, 3) := by decide +kernel
theorem dX7_countSteps_5 : decode cX7_countSteps 5 = .ok (.aload_n 0, 1) := by decide +kernel
theorem dX7_countSteps_6 : decode cX7_countSteps 6 = .ok (.iconst 0, 1) := by decide +kernel
theorem dX7_countSteps_7 : decode cX7_countSteps 7 = .ok (.putfield 95, 3) := by decide +kernel
theorem dX7_countSteps_10 : decode cX7_countSteps 10 = .ok (.iconst 0, 1) := by decide +kernel
theorem dX7_countSteps_11 : decode cX7_countSteps 11 = .ok (.istore_n 3, 1) := by decide +kernel
theorem dX7_countSteps_12 : decode cX7_countSteps 12 = .ok (.iload_n 3, 1) := by decide +kernel
theorem dX7_countSteps_13 : decode cX7_countSteps 13 = .ok (.aload_n 1, 1) := by decide +kernel
theorem dX7_countSteps_14 : decode cX7_countSteps 14 = .ok (.getfield 98, 3) := by decide +kernel
theorem dX7_countSteps_17 : decode cX7_countSteps 17 = .ok (.if_icmp .ge 118, 3) := by decide +kernel
theorem dX7_countSteps_20 : decode cX7_countSteps 20 = .ok (.iload_n 3, 1) := by decide +kernel
theorem dX7_countSteps_21 : decode cX7_countSteps 21 = .ok (.sipush 2000, 3) := by decide +kernel
theorem dX7_countSteps_24 : decode cX7_countSteps 24 = .ok (.if_icmp .ge 111, 3) := by decide +kernel
theorem dX7_countSteps_27 : decode cX7_countSteps 27 = .ok (.aload_n 1, 1) := by decide +kernel
theorem dX7_countSteps_28 : decode cX7_countSteps 28 = .ok (.getfield 101, 3) := by decide +kernel
theorem dX7_countSteps_31 : decode cX7_countSteps 31 = .ok (.iload_n 3, 1) := by decide +kernel
theorem dX7_countSteps_32 : decode cX7_countSteps 32 = .ok (.iaload, 1) := by decide +kernel
theorem dX7_countSteps_33 : decode cX7_countSteps 33 = .ok (.istore 4, 2) := by decide +kernel
theorem dX7_countSteps_35 : decode cX7_countSteps 35 = .ok (.iload 4, 2) := by decide +kernel
theorem dX7_countSteps_37 : decode cX7_countSteps 37 = .ok (.invokestatic 104, 3) := by decide +kernel
theorem dX7_countSteps_40 : decode cX7_countSteps 40 = .ok (.istore 5, 2) := by decide +kernel
theorem dX7_countSteps_42 : decode cX7_countSteps 42 = .ok (.iload 4, 2) := by decide +kernel
theorem dX7_countSteps_44 : decode cX7_countSteps 44 = .ok (.invokestatic 108, 3) := by decide +kernel
theorem dX7_countSteps_47 : decode cX7_countSteps 47 = .ok (.istore 6, 2) := by decide +kernel
theorem dX7_countSteps_49 : decode cX7_countSteps 49 = .ok (.aload_n 0, 1) := by decide +kernel
theorem dX7_countSteps_50 : decode cX7_countSteps 50 = .ok (.iload 5, 2) := by decide +kernel
theorem dX7_countSteps_52 : decode cX7_countSteps 52 = .ok (.iload_n 3, 1) := by decide +kernel
theorem dX7_countSteps_53 : decode cX7_countSteps 53 = .ok (.aload_n 2, 1) := by decide +kernel
theorem dX7_countSteps_54 : decode cX7_countSteps 54 = .ok (.invokevirtual 111, 3) := by decide +kernel
theorem dX7_countSteps_57 : decode cX7_countSteps 57 = .ok (.iload 5, 2) := by decide +kernel
theorem dX7_countSteps_59 : decode cX7_countSteps 59 = .ok (.bipush 40, 2) := by decide +kernel
theorem dX7_countSteps_61 : decode cX7_countSteps 61 = .ok (.if_icmp .ge 14, 3) := by decide +kernel
theorem dX7_countSteps_64 : decode cX7_countSteps 64 = .ok (.aload_n 0, 1) := by decide +kernel
theorem dX7_countSteps_65 : decode cX7_countSteps 65 = .ok (.getfield 17, 3) := by decide +kernel
theorem dX7_countSteps_68 : decode cX7_countSteps 68 = .ok (.iload 5, 2) := by decide +kernel
theorem dX7_countSteps_70 : decode cX7_countSteps 70 = .ok (.dup2, 1) := by decide +kernel
theorem dX7_countSteps_71 : decode cX7_countSteps 71 = .ok (.iaload, 1) := by decide +kernel
theorem dX7_countSteps_72 : decode cX7_countSteps 72 = .ok (.iconst 1, 1) := by decide +kernel
theorem dX7_countSteps_73 : decode cX7_countSteps 73 = .ok (.iadd, 1) := by decide +kernel
theorem dX7_countSteps_74 : decode cX7_countSteps 74 = .ok (.iastore, 1) := by decide +kernel
theorem dX7_countSteps_75 : decode cX7_countSteps 75 = .ok (.iload 6, 2) := by decide +kernel
theorem dX7_countSteps_77 : decode cX7_countSteps 77 = .ok (.bipush 40, 2) := by decide +kernel
theorem dX7_countSteps_79 : decode cX7_countSteps 79 = .ok (.if_icmp .ge 22, 3) := by decide +kernel
theorem dX7_countSteps_82 : decode cX7_countSteps 82 = .ok (.aload_n 0, 1) := by decide +kernel
theorem dX7_countSteps_83 : decode cX7_countSteps 83 = .ok (.iload 6, 2) := by decide +kernel
theorem dX7_countSteps_85 : decode cX7_countSteps 85 = .ok (.iload_n 3, 1) := by decide +kernel
theorem dX7_countSteps_86 : decode cX7_countSteps 86 = .ok (.aload_n 2, 1) := by decide +kernel
theorem dX7_countSteps_87 : decode cX7_countSteps 87 = .ok (.invokevirtual 111, 3) := by decide +kernel
theorem dX7_countSteps_90 : decode cX7_countSteps 90 = .ok (.aload_n 0, 1) := by decide +kernel
theorem dX7_countSteps_91 : decode cX7_countSteps 91 = .ok (.getfield 20, 3) := by decide +kernel
theorem dX7_countSteps_94 : decode cX7_countSteps 94 = .ok (.iload 6, 2) := by decide +kernel
theorem dX7_countSteps_96 : decode cX7_countSteps 96 = .ok (.dup2, 1) := by decide +kernel
theorem dX7_countSteps_97 : decode cX7_countSteps 97 = .ok (.iaload, 1) := by decide +kernel
theorem dX7_countSteps_98 : decode cX7_countSteps 98 = .ok (.iconst 1, 1) := by decide +kernel
theorem dX7_countSteps_99 : decode cX7_countSteps 99 = .ok (.iadd, 1) := by decide +kernel
theorem dX7_countSteps_100 : decode cX7_countSteps 100 = .ok (.iastore, 1) := by decide +kernel
theorem dX7_countSteps_101 : decode cX7_countSteps 101 = .ok (.aload_n 0, 1) := by decide +kernel
theorem dX7_countSteps_102 : decode cX7_countSteps 102 = .ok (.dup, 1) := by decide +kernel
theorem dX7_countSteps_103 : decode cX7_countSteps 103 = .ok (.getfield 92, 3) := by decide +kernel
theorem dX7_countSteps_106 : decode cX7_countSteps 106 = .ok (.iload 4, 2) := by decide +kernel
theorem dX7_countSteps_108 : decode cX7_countSteps 108 = .ok (.invokestatic 115, 3) := by decide +kernel
theorem dX7_countSteps_111 : decode cX7_countSteps 111 = .ok (.iadd, 1) := by decide +kernel
theorem dX7_countSteps_112 : decode cX7_countSteps 112 = .ok (.putfield 92, 3) := by decide +kernel
theorem dX7_countSteps_115 : decode cX7_countSteps 115 = .ok (.aload_n 0, 1) := by decide +kernel
theorem dX7_countSteps_116 : decode cX7_countSteps 116 = .ok (.dup, 1) := by decide +kernel
theorem dX7_countSteps_117 : decode cX7_countSteps 117 = .ok (.getfield 95, 3) := by decide +kernel
theorem dX7_countSteps_120 : decode cX7_countSteps 120 = .ok (.iload 4, 2) := by decide +kernel
theorem dX7_countSteps_122 : decode cX7_countSteps 122 = .ok (.invokestatic 115, 3) := by decide +kernel
theorem dX7_countSteps_125 : decode cX7_countSteps 125 = .ok (.iadd, 1) := by decide +kernel
theorem dX7_countSteps_126 : decode cX7_countSteps 126 = .ok (.putfield 95, 3) := by decide +kernel
theorem dX7_countSteps_129 : decode cX7_countSteps 129 = .ok (.iinc 3 1, 3) := by decide +kernel
theorem dX7_countSteps_132 : decode cX7_countSteps 132 = .ok (.goto (-120), 3) := by decide +kernel
theorem dX7_countSteps_135 : decode cX7_countSteps 135 = .ok (.return_, 1) := by decide +kernel
theorem dX7_meet_0 : decode cX7_meet 0 = .ok (.iload_n 1, 1) := by decide +kernel
theorem dX7_meet_1 : decode cX7_meet 1 = .ok (.ifCond .lt 9, 3) := by decide +kernel
theorem dX7_meet_4 : decode cX7_meet 4 = .ok (.iload_n 1, 1) := by decide +kernel
theorem dX7_meet_5 : decode cX7_meet 5 = .ok (.bipush 40, 2) := by decide +kernel
theorem dX7_meet_7 : decode cX7_meet 7 = .ok (.if_icmp .lt 4, 3) := by decide +kernel
theorem dX7_meet_10 : decode cX7_meet 10 = .ok (.return_, 1) := by decide +kernel
theorem dX7_meet_11 : decode cX7_meet 11 = .ok (.aload_n 3, 1) := by decide +kernel
theorem dX7_meet_12 : decode cX7_meet 12 = .ok (.iload_n 1, 1) := by decide +kernel
theorem dX7_meet_13 : decode cX7_meet 13 = .ok (.aload_n 0, 1) := by decide +kernel
theorem dX7_meet_14 : decode cX7_meet 14 = .ok (.getfield 92, 3) := by decide +kernel
theorem dX7_meet_17 : decode cX7_meet 17 = .ok (.invokevirtual 118, 3) := by decide +kernel
theorem dX7_meet_20 : decode cX7_meet 20 = .ok (.istore 4, 2) := by decide +kernel
theorem dX7_meet_22 : decode cX7_meet 22 = .ok (.aload_n 0, 1) := by decide +kernel
theorem dX7_meet_23 : decode cX7_meet 23 = .ok (.getfield 23, 3) := by decide +kernel
theorem dX7_meet_26 : decode cX7_meet 26 = .ok (.iload_n 1, 1) := by decide +kernel
theorem dX7_meet_27 : decode cX7_meet 27 = .ok (.dup2, 1) := by decide +kernel
theorem dX7_meet_28 : decode cX7_meet 28 = .ok (.iaload, 1) := by decide +kernel
theorem dX7_meet_29 : decode cX7_meet 29 = .ok (.iload 4, 2) := by decide +kernel
theorem dX7_meet_31 : decode cX7_meet 31 = .ok (.iadd, 1) := by decide +kernel
theorem dX7_meet_32 : decode cX7_meet 32 = .ok (.iastore, 1) := by decide +kernel
theorem dX7_meet_33 : decode cX7_meet 33 = .ok (.aload_n 0, 1) := by decide +kernel
theorem dX7_meet_34 : decode cX7_meet 34 = .ok (.dup, 1) := by decide +kernel
theorem dX7_meet_35 : decode cX7_meet 35 = .ok (.getfield 92, 3) := by decide +kernel
theorem dX7_meet_38 : decode cX7_meet 38 = .ok (.iload 4, 2) := by decide +kernel
theorem dX7_meet_40 : decode cX7_meet 40 = .ok (.iconst 1, 1) := by decide +kernel
theorem dX7_meet_41 : decode cX7_meet 41 = .ok (.iadd, 1) := by decide +kernel
theorem dX7_meet_42 : decode cX7_meet 42 = .ok (.iadd, 1) := by decide +kernel
theorem dX7_meet_43 : decode cX7_meet 43 = .ok (.putfield 92, 3) := by decide +kernel
theorem dX7_meet_46 : decode cX7_meet 46 = .ok (.aload_n 0, 1) := by decide +kernel
theorem dX7_meet_47 : decode cX7_meet 47 = .ok (.dup, 1) := by decide +kernel
theorem dX7_meet_48 : decode cX7_meet 48 = .ok (.getfield 95, 3) := by decide +kernel
theorem dX7_meet_51 : decode cX7_meet 51 = .ok (.iconst 1, 1) := by decide +kernel
theorem dX7_meet_52 : decode cX7_meet 52 = .ok (.iadd, 1) := by decide +kernel
theorem dX7_meet_53 : decode cX7_meet 53 = .ok (.putfield 95, 3) := by decide +kernel
theorem dX7_meet_56 : decode cX7_meet 56 = .ok (.aload_n 0, 1) := by decide +kernel
theorem dX7_meet_57 : decode cX7_meet 57 = .ok (.getfield 32, 3) := by decide +kernel
theorem dX7_meet_60 : decode cX7_meet 60 = .ok (.iload_n 1, 1) := by decide +kernel
theorem dX7_meet_61 : decode cX7_meet 61 = .ok (.iaload, 1) := by decide +kernel
theorem dX7_meet_62 : decode cX7_meet 62 = .ok (.iconst (-1), 1) := by decide +kernel
theorem dX7_meet_63 : decode cX7_meet 63 = .ok (.if_icmp .ne 10, 3) := by decide +kernel
theorem dX7_meet_66 : decode cX7_meet 66 = .ok (.aload_n 0, 1) := by decide +kernel
theorem dX7_meet_67 : decode cX7_meet 67 = .ok (.getfield 32, 3) := by decide +kernel
theorem dX7_meet_70 : decode cX7_meet 70 = .ok (.iload_n 1, 1) := by decide +kernel
theorem dX7_meet_71 : decode cX7_meet 71 = .ok (.iload_n 2, 1) := by decide +kernel
theorem dX7_meet_72 : decode cX7_meet 72 = .ok (.iastore, 1) := by decide +kernel
theorem dX7_meet_73 : decode cX7_meet 73 = .ok (.aload_n 0, 1) := by decide +kernel
theorem dX7_meet_74 : decode cX7_meet 74 = .ok (.getfield 35, 3) := by decide +kernel
theorem dX7_meet_77 : decode cX7_meet 77 = .ok (.iload_n 1, 1) := by decide +kernel
theorem dX7_meet_78 : decode cX7_meet 78 = .ok (.iload_n 2, 1) := by decide +kernel
theorem dX7_meet_79 : decode cX7_meet 79 = .ok (.iastore, 1) := by decide +kernel
theorem dX7_meet_80 : decode cX7_meet 80 = .ok (.return_, 1) := by decide +kernel
theorem dX7_shareSpots_0 : decode cX7_shareSpots 0 = .ok (.aload_n 0, 1) := by decide +kernel
theorem dX7_shareSpots_1 : decode cX7_shareSpots 1 = .ok (.getfield 38, 3) := by decide +kernel
theorem dX7_shareSpots_4 : decode cX7_shareSpots 4 = .ok (.iconst (-1), 1) := by decide +kernel
theorem dX7_shareSpots_5 : decode cX7_shareSpots 5 = .ok (.invokestatic 79, 3) := by decide +kernel
theorem dX7_shareSpots_8 : decode cX7_shareSpots 8 = .ok (.aload_n 0, 1) := by decide +kernel
theorem dX7_shareSpots_9 : decode cX7_shareSpots 9 = .ok (.iconst 0, 1) := by decide +kernel
theorem dX7_shareSpots_10 : decode cX7_shareSpots 10 = .ok (.putfield 48, 3) := by decide +kernel
theorem dX7_shareSpots_13 : decode cX7_shareSpots 13 = .ok (.iconst 0, 1) := by decide +kernel
theorem dX7_shareSpots_14 : decode cX7_shareSpots 14 = .ok (.istore_n 1, 1) := by decide +kernel
theorem dX7_shareSpots_15 : decode cX7_shareSpots 15 = .ok (.iload_n 1, 1) := by decide +kernel
theorem dX7_shareSpots_16 : decode cX7_shareSpots 16 = .ok (.bipush 40, 2) := by decide +kernel
theorem dX7_shareSpots_18 : decode cX7_shareSpots 18 = .ok (.if_icmp .ge 52, 3) := by decide +kernel
theorem dX7_shareSpots_21 : decode cX7_shareSpots 21 = .ok (.aload_n 0, 1) := by decide +kernel
theorem dX7_shareSpots_22 : decode cX7_shareSpots 22 = .ok (.invokevirtual 124, 3) := by decide +kernel
theorem dX7_shareSpots_25 : decode cX7_shareSpots 25 = .ok (.istore_n 2, 1) := by decide +kernel
theorem dX7_shareSpots_26 : decode cX7_shareSpots 26 = .ok (.iload_n 2, 1) := by decide +kernel
theorem dX7_shareSpots_27 : decode cX7_shareSpots 27 = .ok (.iconst (-1), 1) := by decide +kernel
theorem dX7_shareSpots_28 : decode cX7_shareSpots 28 = .ok (.if_icmp .ne 6, 3) := by decide +kernel
theorem dX7_shareSpots_31 : decode cX7_shareSpots 31 = .ok (.goto 39, 3) := by decide +kernel
theorem dX7_shareSpots_34 : decode cX7_shareSpots 34 = .ok (.aload_n 0, 1) := by decide +kernel
theorem dX7_shareSpots_35 : decode cX7_shareSpots 35 = .ok (.getfield 38, 3) := by decide +kernel
theorem dX7_shareSpots_38 : decode cX7_shareSpots 38 = .ok (.iload_n 2, 1) := by decide +kernel
theorem dX7_shareSpots_39 : decode cX7_shareSpots 39 = .ok (.aload_n 0, 1) := by decide +kernel
theorem dX7_shareSpots_40 : decode cX7_shareSpots 40 = .ok (.iload_n 2, 1) := by decide +kernel
theorem dX7_shareSpots_41 : decode cX7_shareSpots 41 = .ok (.invokevirtual 128, 3) := by decide +kernel
theorem dX7_shareSpots_44 : decode cX7_shareSpots 44 = .ok (.iastore, 1) := by decide +kernel
theorem dX7_shareSpots_45 : decode cX7_shareSpots 45 = .ok (.aload_n 0, 1) := by decide +kernel
theorem dX7_shareSpots_46 : decode cX7_shareSpots 46 = .ok (.aload_n 0, 1) := by decide +kernel
theorem dX7_shareSpots_47 : decode cX7_shareSpots 47 = .ok (.getfield 48, 3) := by decide +kernel
theorem dX7_shareSpots_50 : decode cX7_shareSpots 50 = .ok (.aload_n 0, 1) := by decide +kernel
theorem dX7_shareSpots_51 : decode cX7_shareSpots 51 = .ok (.getfield 38, 3) := by decide +kernel
theorem dX7_shareSpots_54 : decode cX7_shareSpots 54 = .ok (.iload_n 2, 1) := by decide +kernel
theorem dX7_shareSpots_55 : decode cX7_shareSpots 55 = .ok (.iaload, 1) := by decide +kernel
theorem dX7_shareSpots_56 : decode cX7_shareSpots 56 = .ok (.iconst 1, 1) := by decide +kernel
theorem dX7_shareSpots_57 : decode cX7_shareSpots 57 = .ok (.iadd, 1) := by decide +kernel
theorem dX7_shareSpots_58 : decode cX7_shareSpots 58 = .ok (.invokestatic 131, 3) := by decide +kernel
theorem dX7_shareSpots_61 : decode cX7_shareSpots 61 = .ok (.putfield 48, 3) := by decide +kernel
theorem dX7_shareSpots_64 : decode cX7_shareSpots 64 = .ok (.iinc 1 1, 3) := by decide +kernel
theorem dX7_shareSpots_67 : decode cX7_shareSpots 67 = .ok (.goto (-52), 3) := by decide +kernel
theorem dX7_shareSpots_70 : decode cX7_shareSpots 70 = .ok (.return_, 1) := by decide +kernel
theorem dX7_nextToShare_0 : decode cX7_nextToShare 0 = .ok (.iconst (-1), 1) := by decide +kernel
theorem dX7_nextToShare_1 : decode cX7_nextToShare 1 = .ok (.istore_n 1, 1) := by decide +kernel
theorem dX7_nextToShare_2 : decode cX7_nextToShare 2 = .ok (.iconst 0, 1) := by decide +kernel
theorem dX7_nextToShare_3 : decode cX7_nextToShare 3 = .ok (.istore_n 2, 1) := by decide +kernel
theorem dX7_nextToShare_4 : decode cX7_nextToShare 4 = .ok (.iload_n 2, 1) := by decide +kernel
theorem dX7_nextToShare_5 : decode cX7_nextToShare 5 = .ok (.bipush 40, 2) := by decide +kernel
theorem dX7_nextToShare_7 : decode cX7_nextToShare 7 = .ok (.if_icmp .ge 61, 3) := by decide +kernel
theorem dX7_nextToShare_10 : decode cX7_nextToShare 10 = .ok (.aload_n 0, 1) := by decide +kernel
theorem dX7_nextToShare_11 : decode cX7_nextToShare 11 = .ok (.getfield 32, 3) := by decide +kernel
theorem dX7_nextToShare_14 : decode cX7_nextToShare 14 = .ok (.iload_n 2, 1) := by decide +kernel
theorem dX7_nextToShare_15 : decode cX7_nextToShare 15 = .ok (.iaload, 1) := by decide +kernel
theorem dX7_nextToShare_16 : decode cX7_nextToShare 16 = .ok (.iconst (-1), 1) := by decide +kernel
theorem dX7_nextToShare_17 : decode cX7_nextToShare 17 = .ok (.if_icmp .eq 17, 3) := by decide +kernel
theorem dX7_nextToShare_20 : decode cX7_nextToShare 20 = .ok (.aload_n 0, 1) := by decide +kernel
theorem dX7_nextToShare_21 : decode cX7_nextToShare 21 = .ok (.getfield 38, 3) := by decide +kernel
theorem dX7_nextToShare_24 : decode cX7_nextToShare 24 = .ok (.iload_n 2, 1) := by decide +kernel
theorem dX7_nextToShare_25 : decode cX7_nextToShare 25 = .ok (.iaload, 1) := by decide +kernel
theorem dX7_nextToShare_26 : decode cX7_nextToShare 26 = .ok (.iconst (-1), 1) := by decide +kernel
theorem dX7_nextToShare_27 : decode cX7_nextToShare 27 = .ok (.if_icmp .ne 7, 3) := by decide +kernel
theorem dX7_nextToShare_30 : decode cX7_nextToShare 30 = .ok (.iconst 1, 1) := by decide +kernel
theorem dX7_nextToShare_31 : decode cX7_nextToShare 31 = .ok (.goto 4, 3) := by decide +kernel
theorem dX7_nextToShare_34 : decode cX7_nextToShare 34 = .ok (.iconst 0, 1) := by decide +kernel
theorem dX7_nextToShare_35 : decode cX7_nextToShare 35 = .ok (.istore_n 3, 1) := by decide +kernel
theorem dX7_nextToShare_36 : decode cX7_nextToShare 36 = .ok (.iload_n 3, 1) := by decide +kernel
theorem dX7_nextToShare_37 : decode cX7_nextToShare 37 = .ok (.ifCond .eq 25, 3) := by decide +kernel
theorem dX7_nextToShare_40 : decode cX7_nextToShare 40 = .ok (.iload_n 1, 1) := by decide +kernel
theorem dX7_nextToShare_41 : decode cX7_nextToShare 41 = .ok (.iconst (-1), 1) := by decide +kernel
theorem dX7_nextToShare_42 : decode cX7_nextToShare 42 = .ok (.if_icmp .eq 18, 3) := by decide +kernel
theorem dX7_nextToShare_45 : decode cX7_nextToShare 45 = .ok (.aload_n 0, 1) := by decide +kernel
theorem dX7_nextToShare_46 : decode cX7_nextToShare 46 = .ok (.getfield 32, 3) := by decide +kernel
theorem dX7_nextToShare_49 : decode cX7_nextToShare 49 = .ok (.iload_n 2, 1) := by decide +kernel
theorem dX7_nextToShare_50 : decode cX7_nextToShare 50 = .ok (.iaload, 1) := by decide +kernel
theorem dX7_nextToShare_51 : decode cX7_nextToShare 51 = .ok (.aload_n 0, 1) := by decide +kernel
theorem dX7_nextToShare_52 : decode cX7_nextToShare 52 = .ok (.getfield 32, 3) := by decide +kernel
theorem dX7_nextToShare_55 : decode cX7_nextToShare 55 = .ok (.iload_n 1, 1) := by decide +kernel
theorem dX7_nextToShare_56 : decode cX7_nextToShare 56 = .ok (.iaload, 1) := by decide +kernel
theorem dX7_nextToShare_57 : decode cX7_nextToShare 57 = .ok (.if_icmp .ge 5, 3) := by decide +kernel
theorem dX7_nextToShare_60 : decode cX7_nextToShare 60 = .ok (.iload_n 2, 1) := by decide +kernel
theorem dX7_nextToShare_61 : decode cX7_nextToShare 61 = .ok (.istore_n 1, 1) := by decide +kernel
theorem dX7_nextToShare_62 : decode cX7_nextToShare 62 = .ok (.iinc 2 1, 3) := by decide +kernel
theorem dX7_nextToShare_65 : decode cX7_nextToShare 65 = .ok (.goto (-61), 3) := by decide +kernel
theorem dX7_nextToShare_68 : decode cX7_nextToShare 68 = .ok (.iload_n 1, 1) := by decide +kernel
theorem dX7_nextToShare_69 : decode cX7_nextToShare 69 = .ok (.ireturn, 1) := by decide +kernel
theorem dX7_leastFreeShare_0 : decode cX7_leastFreeShare 0 = .ok (.aload_n 0, 1) := by decide +kernel
theorem dX7_leastFreeShare_1 : decode cX7_leastFreeShare 1 = .ok (.getfield 41, 3) := by decide +kernel
theorem dX7_leastFreeShare_4 : decode cX7_leastFreeShare 4 = .ok (.iconst 0, 1) := by decide +kernel
theorem dX7_leastFreeShare_5 : decode cX7_leastFreeShare 5 = .ok (.invokestatic 79, 3) := by decide +kernel
theorem dX7_leastFreeShare_8 : decode cX7_leastFreeShare 8 = .ok (.iconst 0, 1) := by decide +kernel
theorem dX7_leastFreeShare_9 : decode cX7_leastFreeShare 9 = .ok (.istore_n 2, 1) := by decide +kernel
theorem dX7_leastFreeShare_10 : decode cX7_leastFreeShare 10 = .ok (.iload_n 2, 1) := by decide +kernel
theorem dX7_leastFreeShare_11 : decode cX7_leastFreeShare 11 = .ok (.bipush 40, 2) := by decide +kernel
theorem dX7_leastFreeShare_13 : decode cX7_leastFreeShare 13 = .ok (.if_icmp .ge 81, 3) := by decide +kernel
theorem dX7_leastFreeShare_16 : decode cX7_leastFreeShare 16 = .ok (.aload_n 0, 1) := by decide +kernel
theorem dX7_leastFreeShare_17 : decode cX7_leastFreeShare 17 = .ok (.getfield 32, 3) := by decide +kernel
theorem dX7_leastFreeShare_20 : decode cX7_leastFreeShare 20 = .ok (.iload_n 2, 1) := by decide +kernel
theorem dX7_leastFreeShare_21 : decode cX7_leastFreeShare 21 = .ok (.iaload, 1) := by decide +kernel
theorem dX7_leastFreeShare_22 : decode cX7_leastFreeShare 22 = .ok (.aload_n 0, 1) := by decide +kernel
theorem dX7_leastFreeShare_23 : decode cX7_leastFreeShare 23 = .ok (.getfield 35, 3) := by decide +kernel
theorem dX7_leastFreeShare_26 : decode cX7_leastFreeShare 26 = .ok (.iload_n 1, 1) := by decide +kernel
theorem dX7_leastFreeShare_27 : decode cX7_leastFreeShare 27 = .ok (.iaload, 1) := by decide +kernel
theorem dX7_leastFreeShare_28 : decode cX7_leastFreeShare 28 = .ok (.if_icmp .gt 22, 3) := by decide +kernel
theorem dX7_leastFreeShare_31 : decode cX7_leastFreeShare 31 = .ok (.aload_n 0, 1) := by decide +kernel
theorem dX7_leastFreeShare_32 : decode cX7_leastFreeShare 32 = .ok (.getfield 32, 3) := by decide +kernel
theorem dX7_leastFreeShare_35 : decode cX7_leastFreeShare 35 = .ok (.iload_n 1, 1) := by decide +kernel
theorem dX7_leastFreeShare_36 : decode cX7_leastFreeShare 36 = .ok (.iaload, 1) := by decide +kernel
theorem dX7_leastFreeShare_37 : decode cX7_leastFreeShare 37 = .ok (.aload_n 0, 1) := by decide +kernel
theorem dX7_leastFreeShare_38 : decode cX7_leastFreeShare 38 = .ok (.getfield 35, 3) := by decide +kernel
theorem dX7_leastFreeShare_41 : decode cX7_leastFreeShare 41 = .ok (.iload_n 2, 1) := by decide +kernel
theorem dX7_leastFreeShare_42 : decode cX7_leastFreeShare 42 = .ok (.iaload, 1) := by decide +kernel
theorem dX7_leastFreeShare_43 : decode cX7_leastFreeShare 43 = .ok (.if_icmp .gt 7, 3) := by decide +kernel
theorem dX7_leastFreeShare_46 : decode cX7_leastFreeShare 46 = .ok (.iconst 1, 1) := by decide +kernel
theorem dX7_leastFreeShare_47 : decode cX7_leastFreeShare 47 = .ok (.goto 4, 3) := by decide +kernel
theorem dX7_leastFreeShare_50 : decode cX7_leastFreeShare 50 = .ok (.iconst 0, 1) := by decide +kernel
theorem dX7_leastFreeShare_51 : decode cX7_leastFreeShare 51 = .ok (.istore_n 3, 1) := by decide +kernel
theorem dX7_leastFreeShare_52 : decode cX7_leastFreeShare 52 = .ok (.iload_n 3, 1) := by decide +kernel
theorem dX7_leastFreeShare_53 : decode cX7_leastFreeShare 53 = .ok (.ifCond .eq 35, 3) := by decide +kernel
theorem dX7_leastFreeShare_56 : decode cX7_leastFreeShare 56 = .ok (.aload_n 0, 1) := by decide +kernel
theorem dX7_leastFreeShare_57 : decode cX7_leastFreeShare 57 = .ok (.getfield 38, 3) := by decide +kernel
theorem dX7_leastFreeShare_60 : decode cX7_leastFreeShare 60 = .ok (.iload_n 2, 1) := by decide +kernel
theorem dX7_leastFreeShare_61 : decode cX7_leastFreeShare 61 = .ok (.iaload, 1) := by decide +kernel
theorem dX7_leastFreeShare_62 : decode cX7_leastFreeShare 62 = .ok (.ifCond .lt 26, 3) := by decide +kernel
theorem dX7_leastFreeShare_65 : decode cX7_leastFreeShare 65 = .ok (.aload_n 0, 1) := by decide +kernel
theorem dX7_leastFreeShare_66 : decode cX7_leastFreeShare 66 = .ok (.getfield 38, 3) := by decide +kernel
theorem dX7_leastFreeShare_69 : decode cX7_leastFreeShare 69 = .ok (.iload_n 2, 1) := by decide +kernel
theorem dX7_leastFreeShare_70 : decode cX7_leastFreeShare 70 = .ok (.iaload, 1) := by decide +kernel
theorem dX7_leastFreeShare_71 : decode cX7_leastFreeShare 71 = .ok (.bipush 40, 2) := by decide +kernel
theorem dX7_leastFreeShare_73 : decode cX7_leastFreeShare 73 = .ok (.if_icmp .ge 15, 3) := by decide +kernel
theorem dX7_leastFreeShare_76 : decode cX7_leastFreeShare 76 = .ok (.aload_n 0, 1) := by decide +kernel
theorem dX7_leastFreeShare_77 : decode cX7_leastFreeShare 77 = .ok (.getfield 41, 3) := by decide +kernel
theorem dX7_leastFreeShare_80 : decode cX7_leastFreeShare 80 = .ok (.aload_n 0, 1) := by decide +kernel
theorem dX7_leastFreeShare_81 : decode cX7_leastFreeShare 81 = .ok (.getfield 38, 3) := by decide +kernel
theorem dX7_leastFreeShare_84 : decode cX7_leastFreeShare 84 = .ok (.iload_n 2, 1) := by decide +kernel
theorem dX7_leastFreeShare_85 : decode cX7_leastFreeShare 85 = .ok (.iaload, 1) := by decide +kernel
theorem dX7_leastFreeShare_86 : decode cX7_leastFreeShare 86 = .ok (.iconst 1, 1) := by decide +kernel
theorem dX7_leastFreeShare_87 : decode cX7_leastFreeShare 87 = .ok (.iastore, 1) := by decide +kernel
theorem dX7_leastFreeShare_88 : decode cX7_leastFreeShare 88 = .ok (.iinc 2 1, 3) := by decide +kernel
theorem dX7_leastFreeShare_91 : decode cX7_leastFreeShare 91 = .ok (.goto (-81), 3) := by decide +kernel
theorem dX7_leastFreeShare_94 : decode cX7_leastFreeShare 94 = .ok (.iconst 0, 1) := by decide +kernel
theorem dX7_leastFreeShare_95 : decode cX7_leastFreeShare 95 = .ok (.istore_n 2, 1) := by decide +kernel
theorem dX7_leastFreeShare_96 : decode cX7_leastFreeShare 96 = .ok (.iload_n 2, 1) := by decide +kernel
theorem dX7_leastFreeShare_97 : decode cX7_leastFreeShare 97 = .ok (.bipush 40, 2) := by decide +kernel
theorem dX7_leastFreeShare_99 : decode cX7_leastFreeShare 99 = .ok (.if_icmp .ge 18, 3) := by decide +kernel
theorem dX7_leastFreeShare_102 : decode cX7_leastFreeShare 102 = .ok (.aload_n 0, 1) := by decide +kernel
theorem dX7_leastFreeShare_103 : decode cX7_leastFreeShare 103 = .ok (.getfield 41, 3) := by decide +kernel
theorem dX7_leastFreeShare_106 : decode cX7_leastFreeShare 106 = .ok (.iload_n 2, 1) := by decide +kernel
theorem dX7_leastFreeShare_107 : decode cX7_leastFreeShare 107 = .ok (.iaload, 1) := by decide +kernel
theorem dX7_leastFreeShare_108 : decode cX7_leastFreeShare 108 = .ok (.ifCond .eq 9, 3) := by decide +kernel
theorem dX7_leastFreeShare_111 : decode cX7_leastFreeShare 111 = .ok (.iinc 2 1, 3) := by decide +kernel
theorem dX7_leastFreeShare_114 : decode cX7_leastFreeShare 114 = .ok (.goto (-18), 3) := by decide +kernel
theorem dX7_leastFreeShare_117 : decode cX7_leastFreeShare 117 = .ok (.iload_n 2, 1) := by decide +kernel
theorem dX7_leastFreeShare_118 : decode cX7_leastFreeShare 118 = .ok (.ireturn, 1) := by decide +kernel
theorem dX7_tellRun_0 : decode cX7_tellRun 0 = .ok (.aload_n 0, 1) := by decide +kernel
theorem dX7_tellRun_1 : decode cX7_tellRun 1 = .ok (.getfield 44, 3) := by decide +kernel
theorem dX7_tellRun_4 : decode cX7_tellRun 4 = .ok (.ifCond .ne 6, 3) := by decide +kernel
theorem dX7_tellRun_7 : decode cX7_tellRun 7 = .ok (.ldc 136, 2) := by decide +kernel
theorem dX7_tellRun_9 : decode cX7_tellRun 9 = .ok (.ireturn, 1) := by decide +kernel
theorem dX7_tellRun_10 : decode cX7_tellRun 10 = .ok (.iload_n 1, 1) := by decide +kernel
theorem dX7_tellRun_11 : decode cX7_tellRun 11 = .ok (.tableswitch 67 0 5 #[37, 42, 47, 52, 57, 62], 37) := by decide +kernel
theorem dX7_tellRun_48 : decode cX7_tellRun 48 = .ok (.aload_n 0, 1) := by decide +kernel
theorem dX7_tellRun_49 : decode cX7_tellRun 49 = .ok (.getfield 55, 3) := by decide +kernel
theorem dX7_tellRun_52 : decode cX7_tellRun 52 = .ok (.ireturn, 1) := by decide +kernel
theorem dX7_tellRun_53 : decode cX7_tellRun 53 = .ok (.aload_n 0, 1) := by decide +kernel
theorem dX7_tellRun_54 : decode cX7_tellRun 54 = .ok (.getfield 59, 3) := by decide +kernel
theorem dX7_tellRun_57 : decode cX7_tellRun 57 = .ok (.ireturn, 1) := by decide +kernel
theorem dX7_tellRun_58 : decode cX7_tellRun 58 = .ok (.aload_n 0, 1) := by decide +kernel
theorem dX7_tellRun_59 : decode cX7_tellRun 59 = .ok (.getfield 63, 3) := by decide +kernel
theorem dX7_tellRun_62 : decode cX7_tellRun 62 = .ok (.ireturn, 1) := by decide +kernel
theorem dX7_tellRun_63 : decode cX7_tellRun 63 = .ok (.aload_n 0, 1) := by decide +kernel
theorem dX7_tellRun_64 : decode cX7_tellRun 64 = .ok (.getfield 67, 3) := by decide +kernel
theorem dX7_tellRun_67 : decode cX7_tellRun 67 = .ok (.ireturn, 1) := by decide +kernel
theorem dX7_tellRun_68 : decode cX7_tellRun 68 = .ok (.aload_n 0, 1) := by decide +kernel
theorem dX7_tellRun_69 : decode cX7_tellRun 69 = .ok (.getfield 92, 3) := by decide +kernel
theorem dX7_tellRun_72 : decode cX7_tellRun 72 = .ok (.ireturn, 1) := by decide +kernel
theorem dX7_tellRun_73 : decode cX7_tellRun 73 = .ok (.aload_n 0, 1) := by decide +kernel
theorem dX7_tellRun_74 : decode cX7_tellRun 74 = .ok (.getfield 95, 3) := by decide +kernel
theorem dX7_tellRun_77 : decode cX7_tellRun 77 = .ok (.ireturn, 1) := by decide +kernel
theorem dX7_tellRun_78 : decode cX7_tellRun 78 = .ok (.aload_n 0, 1) := by decide +kernel
theorem dX7_tellRun_79 : decode cX7_tellRun 79 = .ok (.iload_n 1, 1) := by decide +kernel
theorem dX7_tellRun_80 : decode cX7_tellRun 80 = .ok (.invokevirtual 137, 3) := by decide +kernel
theorem dX7_tellRun_83 : decode cX7_tellRun 83 = .ok (.ireturn, 1) := by decide +kernel
theorem dX7_tellPrinted_0 : decode cX7_tellPrinted 0 = .ok (.iload_n 1, 1) := by decide +kernel
theorem dX7_tellPrinted_1 : decode cX7_tellPrinted 1 = .ok (.bipush 100, 2) := by decide +kernel
theorem dX7_tellPrinted_3 : decode cX7_tellPrinted 3 = .ok (.if_icmp .lt 21, 3) := by decide +kernel
theorem dX7_tellPrinted_6 : decode cX7_tellPrinted 6 = .ok (.iload_n 1, 1) := by decide +kernel
theorem dX7_tellPrinted_7 : decode cX7_tellPrinted 7 = .ok (.sipush 200, 3) := by decide +kernel
theorem dX7_tellPrinted_10 : decode cX7_tellPrinted 10 = .ok (.if_icmp .ge 14, 3) := by decide +kernel
theorem dX7_tellPrinted_13 : decode cX7_tellPrinted 13 = .ok (.iload_n 1, 1) := by decide +kernel
theorem dX7_tellPrinted_14 : decode cX7_tellPrinted 14 = .ok (.bipush 100, 2) := by decide +kernel
theorem dX7_tellPrinted_16 : decode cX7_tellPrinted 16 = .ok (.isub, 1) := by decide +kernel
theorem dX7_tellPrinted_17 : decode cX7_tellPrinted 17 = .ok (.aload_n 0, 1) := by decide +kernel
theorem dX7_tellPrinted_18 : decode cX7_tellPrinted 18 = .ok (.getfield 67, 3) := by decide +kernel
theorem dX7_tellPrinted_21 : decode cX7_tellPrinted 21 = .ok (.if_icmp .lt 6, 3) := by decide +kernel
theorem dX7_tellPrinted_24 : decode cX7_tellPrinted 24 = .ok (.ldc 136, 2) := by decide +kernel
theorem dX7_tellPrinted_26 : decode cX7_tellPrinted 26 = .ok (.ireturn, 1) := by decide +kernel
theorem dX7_tellPrinted_27 : decode cX7_tellPrinted 27 = .ok (.aload_n 0, 1) := by decide +kernel
theorem dX7_tellPrinted_28 : decode cX7_tellPrinted 28 = .ok (.getfield 11, 3) := by decide +kernel
theorem dX7_tellPrinted_31 : decode cX7_tellPrinted 31 = .ok (.iload_n 1, 1) := by decide +kernel
theorem dX7_tellPrinted_32 : decode cX7_tellPrinted 32 = .ok (.bipush 100, 2) := by decide +kernel
theorem dX7_tellPrinted_34 : decode cX7_tellPrinted 34 = .ok (.isub, 1) := by decide +kernel
theorem dX7_tellPrinted_35 : decode cX7_tellPrinted 35 = .ok (.iaload, 1) := by decide +kernel
theorem dX7_tellPrinted_36 : decode cX7_tellPrinted 36 = .ok (.ireturn, 1) := by decide +kernel
theorem dX7_tellName_0 : decode cX7_tellName 0 = .ok (.aload_n 0, 1) := by decide +kernel
theorem dX7_tellName_1 : decode cX7_tellName 1 = .ok (.getfield 44, 3) := by decide +kernel
theorem dX7_tellName_4 : decode cX7_tellName 4 = .ok (.ifCond .eq 13, 3) := by decide +kernel
theorem dX7_tellName_7 : decode cX7_tellName 7 = .ok (.iload_n 1, 1) := by decide +kernel
theorem dX7_tellName_8 : decode cX7_tellName 8 = .ok (.ifCond .lt 9, 3) := by decide +kernel
theorem dX7_tellName_11 : decode cX7_tellName 11 = .ok (.iload_n 1, 1) := by decide +kernel
theorem dX7_tellName_12 : decode cX7_tellName 12 = .ok (.bipush 40, 2) := by decide +kernel
theorem dX7_tellName_14 : decode cX7_tellName 14 = .ok (.if_icmp .lt 6, 3) := by decide +kernel
theorem dX7_tellName_17 : decode cX7_tellName 17 = .ok (.ldc 136, 2) := by decide +kernel
theorem dX7_tellName_19 : decode cX7_tellName 19 = .ok (.ireturn, 1) := by decide +kernel
theorem dX7_tellName_20 : decode cX7_tellName 20 = .ok (.iload_n 2, 1) := by decide +kernel
theorem dX7_tellName_21 : decode cX7_tellName 21 = .ok (.tableswitch 103 0 7 #[47, 54, 61, 68, 75, 82, 89, 96], 47) := by decide +kernel
theorem dX7_tellName_68 : decode cX7_tellName 68 = .ok (.aload_n 0, 1) := by decide +kernel
theorem dX7_tellName_69 : decode cX7_tellName 69 = .ok (.getfield 17, 3) := by decide +kernel
theorem dX7_tellName_72 : decode cX7_tellName 72 = .ok (.iload_n 1, 1) := by decide +kernel
theorem dX7_tellName_73 : decode cX7_tellName 73 = .ok (.iaload, 1) := by decide +kernel
theorem dX7_tellName_74 : decode cX7_tellName 74 = .ok (.ireturn, 1) := by decide +kernel
theorem dX7_tellName_75 : decode cX7_tellName 75 = .ok (.aload_n 0, 1) := by decide +kernel
theorem dX7_tellName_76 : decode cX7_tellName 76 = .ok (.getfield 20, 3) := by decide +kernel
theorem dX7_tellName_79 : decode cX7_tellName 79 = .ok (.iload_n 1, 1) := by decide +kernel
theorem dX7_tellName_80 : decode cX7_tellName 80 = .ok (.iaload, 1) := by decide +kernel
theorem dX7_tellName_81 : decode cX7_tellName 81 = .ok (.ireturn, 1) := by decide +kernel
theorem dX7_tellName_82 : decode cX7_tellName 82 = .ok (.aload_n 0, 1) := by decide +kernel
theorem dX7_tellName_83 : decode cX7_tellName 83 = .ok (.getfield 23, 3) := by decide +kernel
theorem dX7_tellName_86 : decode cX7_tellName 86 = .ok (.iload_n 1, 1) := by decide +kernel
theorem dX7_tellName_87 : decode cX7_tellName 87 = .ok (.iaload, 1) := by decide +kernel
theorem dX7_tellName_88 : decode cX7_tellName 88 = .ok (.ireturn, 1) := by decide +kernel
theorem dX7_tellName_89 : decode cX7_tellName 89 = .ok (.aload_n 0, 1) := by decide +kernel
theorem dX7_tellName_90 : decode cX7_tellName 90 = .ok (.getfield 26, 3) := by decide +kernel
theorem dX7_tellName_93 : decode cX7_tellName 93 = .ok (.iload_n 1, 1) := by decide +kernel
theorem dX7_tellName_94 : decode cX7_tellName 94 = .ok (.iaload, 1) := by decide +kernel
theorem dX7_tellName_95 : decode cX7_tellName 95 = .ok (.ireturn, 1) := by decide +kernel
theorem dX7_tellName_96 : decode cX7_tellName 96 = .ok (.aload_n 0, 1) := by decide +kernel
theorem dX7_tellName_97 : decode cX7_tellName 97 = .ok (.getfield 32, 3) := by decide +kernel
theorem dX7_tellName_100 : decode cX7_tellName 100 = .ok (.iload_n 1, 1) := by decide +kernel
theorem dX7_tellName_101 : decode cX7_tellName 101 = .ok (.iaload, 1) := by decide +kernel
theorem dX7_tellName_102 : decode cX7_tellName 102 = .ok (.ireturn, 1) := by decide +kernel
theorem dX7_tellName_103 : decode cX7_tellName 103 = .ok (.aload_n 0, 1) := by decide +kernel
theorem dX7_tellName_104 : decode cX7_tellName 104 = .ok (.getfield 35, 3) := by decide +kernel
theorem dX7_tellName_107 : decode cX7_tellName 107 = .ok (.iload_n 1, 1) := by decide +kernel
theorem dX7_tellName_108 : decode cX7_tellName 108 = .ok (.iaload, 1) := by decide +kernel
theorem dX7_tellName_109 : decode cX7_tellName 109 = .ok (.ireturn, 1) := by decide +kernel
theorem dX7_tellName_110 : decode cX7_tellName 110 = .ok (.aload_n 0, 1) := by decide +kernel
theorem dX7_tellName_111 : decode cX7_tellName 111 = .ok (.getfield 29, 3) := by decide +kernel
theorem dX7_tellName_114 : decode cX7_tellName 114 = .ok (.iload_n 1, 1) := by decide +kernel
theorem dX7_tellName_115 : decode cX7_tellName 115 = .ok (.iaload, 1) := by decide +kernel
theorem dX7_tellName_116 : decode cX7_tellName 116 = .ok (.ireturn, 1) := by decide +kernel
theorem dX7_tellName_117 : decode cX7_tellName 117 = .ok (.aload_n 0, 1) := by decide +kernel
theorem dX7_tellName_118 : decode cX7_tellName 118 = .ok (.getfield 38, 3) := by decide +kernel
theorem dX7_tellName_121 : decode cX7_tellName 121 = .ok (.iload_n 1, 1) := by decide +kernel
theorem dX7_tellName_122 : decode cX7_tellName 122 = .ok (.iaload, 1) := by decide +kernel
theorem dX7_tellName_123 : decode cX7_tellName 123 = .ok (.ireturn, 1) := by decide +kernel
theorem dX7_tellName_124 : decode cX7_tellName 124 = .ok (.ldc 136, 2) := by decide +kernel
theorem dX7_tellName_126 : decode cX7_tellName 126 = .ok (.ireturn, 1) := by decide +kernel
theorem dX8_init_0 : decode cX8_init 0 = .ok (.aload_n 0, 1) := by decide +kernel
theorem dX8_init_1 : decode cX8_init 1 = .ok (.invokespecial 3, 3) := by decide +kernel
theorem dX8_init_4 : decode cX8_init 4 = .ok (.aload_n 0, 1) := by decide +kernel
theorem dX8_init_5 : decode cX8_init 5 = .ok (.bipush 6, 2) := by decide +kernel
theorem dX8_init_7 : decode cX8_init 7 = .ok (.newarray .int, 2) := by decide +kernel
theorem dX8_init_9 : decode cX8_init 9 = .ok (.putfield 11, 3) := by decide +kernel
theorem dX8_init_12 : decode cX8_init 12 = .ok (.aload_n 0, 1) := by decide +kernel
theorem dX8_init_13 : decode cX8_init 13 = .ok (.bipush 6, 2) := by decide +kernel
theorem dX8_init_15 : decode cX8_init 15 = .ok (.newarray .int, 2) := by decide +kernel
theorem dX8_init_17 : decode cX8_init 17 = .ok (.putfield 15, 3) := by decide +kernel
theorem dX8_init_20 : decode cX8_init 20 = .ok (.aload_n 0, 1) := by decide +kernel
theorem dX8_init_21 : decode cX8_init 21 = .ok (.bipush 6, 2) := by decide +kernel
theorem dX8_init_23 : decode cX8_init 23 = .ok (.newarray .int, 2) := by decide +kernel
theorem dX8_init_25 : decode cX8_init 25 = .ok (.putfield 18, 3) := by decide +kernel
theorem dX8_init_28 : decode cX8_init 28 = .ok (.aload_n 0, 1) := by decide +kernel
theorem dX8_init_29 : decode cX8_init 29 = .ok (.aload_n 1, 1) := by decide +kernel
theorem dX8_init_30 : decode cX8_init 30 = .ok (.putfield 21, 3) := by decide +kernel
theorem dX8_init_33 : decode cX8_init 33 = .ok (.aload_n 0, 1) := by decide +kernel
theorem dX8_init_34 : decode cX8_init 34 = .ok (.aload_n 2, 1) := by decide +kernel
theorem dX8_init_35 : decode cX8_init 35 = .ok (.putfield 25, 3) := by decide +kernel
theorem dX8_init_38 : decode cX8_init 38 = .ok (.aload_n 0, 1) := by decide +kernel
theorem dX8_init_39 : decode cX8_init 39 = .ok (.aload_n 3, 1) := by decide +kernel
theorem dX8_init_40 : decode cX8_init 40 = .ok (.putfield 29, 3) := by decide +kernel
theorem dX8_init_43 : decode cX8_init 43 = .ok (.return_, 1) := by decide +kernel
theorem dX8_findPlace_0 : decode cX8_findPlace 0 = .ok (.aload_n 0, 1) := by decide +kernel
theorem dX8_findPlace_1 : decode cX8_findPlace 1 = .ok (.getfield 25, 3) := by decide +kernel
theorem dX8_findPlace_4 : decode cX8_findPlace 4 = .ok (.getfield 33, 3) := by decide +kernel
theorem dX8_findPlace_7 : decode cX8_findPlace 7 = .ok (.iload_n 1, 1) := by decide +kernel
theorem dX8_findPlace_8 : decode cX8_findPlace 8 = .ok (.iaload, 1) := by decide +kernel
theorem dX8_findPlace_9 : decode cX8_findPlace 9 = .ok (.istore_n 2, 1) := by decide +kernel
theorem dX8_findPlace_10 : decode cX8_findPlace 10 = .ok (.iconst (-1), 1) := by decide +kernel
theorem dX8_findPlace_11 : decode cX8_findPlace 11 = .ok (.istore_n 3, 1) := by decide +kernel
theorem dX8_findPlace_12 : decode cX8_findPlace 12 = .ok (.iconst 0, 1) := by decide +kernel
theorem dX8_findPlace_13 : decode cX8_findPlace 13 = .ok (.istore 4, 2) := by decide +kernel
theorem dX8_findPlace_15 : decode cX8_findPlace 15 = .ok (.aload_n 0, 1) := by decide +kernel
theorem dX8_findPlace_16 : decode cX8_findPlace 16 = .ok (.getfield 21, 3) := by decide +kernel
theorem dX8_findPlace_19 : decode cX8_findPlace 19 = .ok (.invokevirtual 38, 3) := by decide +kernel
theorem dX8_findPlace_22 : decode cX8_findPlace 22 = .ok (.istore 5, 2) := by decide +kernel
theorem dX8_findPlace_24 : decode cX8_findPlace 24 = .ok (.iconst 0, 1) := by decide +kernel
theorem dX8_findPlace_25 : decode cX8_findPlace 25 = .ok (.istore 6, 2) := by decide +kernel
theorem dX8_findPlace_27 : decode cX8_findPlace 27 = .ok (.iload 6, 2) := by decide +kernel
theorem dX8_findPlace_29 : decode cX8_findPlace 29 = .ok (.iload 5, 2) := by decide +kernel
theorem dX8_findPlace_31 : decode cX8_findPlace 31 = .ok (.if_icmp .ge 128, 3) := by decide +kernel
theorem dX8_findPlace_34 : decode cX8_findPlace 34 = .ok (.iload 6, 2) := by decide +kernel
theorem dX8_findPlace_36 : decode cX8_findPlace 36 = .ok (.sipush 128, 3) := by decide +kernel
theorem dX8_findPlace_39 : decode cX8_findPlace 39 = .ok (.if_icmp .ge 120, 3) := by decide +kernel
theorem dX8_findPlace_42 : decode cX8_findPlace 42 = .ok (.iload 6, 2) := by decide +kernel
theorem dX8_findPlace_44 : decode cX8_findPlace 44 = .ok (.iload_n 2, 1) := by decide +kernel
theorem dX8_findPlace_45 : decode cX8_findPlace 45 = .ok (.if_icmp .eq 17, 3) := by decide +kernel
theorem dX8_findPlace_48 : decode cX8_findPlace 48 = .ok (.aload_n 0, 1) := by decide +kernel
theorem dX8_findPlace_49 : decode cX8_findPlace 49 = .ok (.getfield 25, 3) := by decide +kernel
theorem dX8_findPlace_52 : decode cX8_findPlace 52 = .ok (.getfield 44, 3) := by decide +kernel
theorem dX8_findPlace_55 : decode cX8_findPlace 55 = .ok (.iload 6, 2) := by decide +kernel
theorem dX8_findPlace_57 : decode cX8_findPlace 57 = .ok (.iaload, 1) := by decide +kernel
theorem dX8_findPlace_58 : decode cX8_findPlace 58 = .ok (.iconst (-1), 1) := by decide +kernel
theorem dX8_findPlace_59 : decode cX8_findPlace 59 = .ok (.if_icmp .ne 7, 3) := by decide +kernel
theorem dX8_findPlace_62 : decode cX8_findPlace 62 = .ok (.iconst 1, 1) := by decide +kernel
theorem dX8_findPlace_63 : decode cX8_findPlace 63 = .ok (.goto 4, 3) := by decide +kernel
theorem dX8_findPlace_66 : decode cX8_findPlace 66 = .ok (.iconst 0, 1) := by decide +kernel
theorem dX8_findPlace_67 : decode cX8_findPlace 67 = .ok (.istore 7, 2) := by decide +kernel
theorem dX8_findPlace_69 : decode cX8_findPlace 69 = .ok (.iload 7, 2) := by decide +kernel
theorem dX8_findPlace_71 : decode cX8_findPlace 71 = .ok (.ifCond .eq 82, 3) := by decide +kernel
theorem dX8_findPlace_74 : decode cX8_findPlace 74 = .ok (.aload_n 0, 1) := by decide +kernel
theorem dX8_findPlace_75 : decode cX8_findPlace 75 = .ok (.getfield 25, 3) := by decide +kernel
theorem dX8_findPlace_78 : decode cX8_findPlace 78 = .ok (.getfield 47, 3) := by decide +kernel
theorem dX8_findPlace_81 : decode cX8_findPlace 81 = .ok (.iload 6, 2) := by decide +kernel
theorem dX8_findPlace_83 : decode cX8_findPlace 83 = .ok (.baload, 1) := by decide +kernel
theorem dX8_findPlace_84 : decode cX8_findPlace 84 = .ok (.ifCond .ne 69, 3) := by decide +kernel
theorem dX8_findPlace_87 : decode cX8_findPlace 87 = .ok (.aload_n 0, 1) := by decide +kernel
theorem dX8_findPlace_88 : decode cX8_findPlace 88 = .ok (.getfield 21, 3) := by decide +kernel
theorem dX8_findPlace_91 : decode cX8_findPlace 91 = .ok (.iload 6, 2) := by decide +kernel
theorem dX8_findPlace_93 : decode cX8_findPlace 93 = .ok (.invokevirtual 51, 3) := by decide +kernel
theorem dX8_findPlace_96 : decode cX8_findPlace 96 = .ok (.ifCond .ne 6, 3) := by decide +kernel
theorem dX8_findPlace_99 : decode cX8_findPlace 99 = .ok (.goto 54, 3) := by decide +kernel
theorem dX8_findPlace_102 : decode cX8_findPlace 102 = .ok (.aload_n 0, 1) := by decide +kernel
theorem dX8_findPlace_103 : decode cX8_findPlace 103 = .ok (.getfield 25, 3) := by decide +kernel
theorem dX8_findPlace_106 : decode cX8_findPlace 106 = .ok (.iload_n 1, 1) := by decide +kernel
theorem dX8_findPlace_107 : decode cX8_findPlace 107 = .ok (.iload 6, 2) := by decide +kernel
theorem dX8_findPlace_109 : decode cX8_findPlace 109 = .ok (.invokevirtual 55, 3) := by decide +kernel
theorem dX8_findPlace_112 : decode cX8_findPlace 112 = .ok (.aload_n 0, 1) := by decide +kernel
theorem dX8_findPlace_113 : decode cX8_findPlace 113 = .ok (.getfield 25, 3) := by decide +kernel
theorem dX8_findPlace_116 : decode cX8_findPlace 116 = .ok (.aload_n 0, 1) := by decide +kernel
theorem dX8_findPlace_117 : decode cX8_findPlace 117 = .ok (.getfield 29, 3) := by decide +kernel
theorem dX8_findPlace_120 : decode cX8_findPlace 120 = .ok (.invokevirtual 59, 3) := by decide +kernel
theorem dX8_findPlace_123 : decode cX8_findPlace 123 = .ok (.istore 8, 2) := by decide +kernel
theorem dX8_findPlace_125 : decode cX8_findPlace 125 = .ok (.aload_n 0, 1) := by decide +kernel
theorem dX8_findPlace_126 : decode cX8_findPlace 126 = .ok (.getfield 25, 3) := by decide +kernel
theorem dX8_findPlace_129 : decode cX8_findPlace 129 = .ok (.iload_n 1, 1) := by decide +kernel
theorem dX8_findPlace_130 : decode cX8_findPlace 130 = .ok (.iload_n 2, 1) := by decide +kernel
theorem dX8_findPlace_131 : decode cX8_findPlace 131 = .ok (.invokevirtual 55, 3) := by decide +kernel
theorem dX8_findPlace_134 : decode cX8_findPlace 134 = .ok (.iload_n 3, 1) := by decide +kernel
theorem dX8_findPlace_135 : decode cX8_findPlace 135 = .ok (.iconst (-1), 1) := by decide +kernel
theorem dX8_findPlace_136 : decode cX8_findPlace 136 = .ok (.if_icmp .eq 10, 3) := by decide +kernel
theorem dX8_findPlace_139 : decode cX8_findPlace 139 = .ok (.iload 8, 2) := by decide +kernel
theorem dX8_findPlace_141 : decode cX8_findPlace 141 = .ok (.iload 4, 2) := by decide +kernel
theorem dX8_findPlace_143 : decode cX8_findPlace 143 = .ok (.if_icmp .ge 10, 3) := by decide +kernel
theorem dX8_findPlace_146 : decode cX8_findPlace 146 = .ok (.iload 6, 2) := by decide +kernel
theorem dX8_findPlace_148 : decode cX8_findPlace 148 = .ok (.istore_n 3, 1) := by decide +kernel
theorem dX8_findPlace_149 : decode cX8_findPlace 149 = .ok (.iload 8, 2) := by decide +kernel
theorem dX8_findPlace_151 : decode cX8_findPlace 151 = .ok (.istore 4, 2) := by decide +kernel
theorem dX8_findPlace_153 : decode cX8_findPlace 153 = .ok (.iinc 6 1, 3) := by decide +kernel
theorem dX8_findPlace_156 : decode cX8_findPlace 156 = .ok (.goto (-129), 3) := by decide +kernel
theorem dX8_findPlace_159 : decode cX8_findPlace 159 = .ok (.iload_n 3, 1) := by decide +kernel
theorem dX8_findPlace_160 : decode cX8_findPlace 160 = .ok (.ireturn, 1) := by decide +kernel
theorem dX8_leaveBadSpots_0 : decode cX8_leaveBadSpots 0 = .ok (.iconst 0, 1) := by decide +kernel
theorem dX8_leaveBadSpots_1 : decode cX8_leaveBadSpots 1 = .ok (.istore_n 1, 1) := by decide +kernel
theorem dX8_leaveBadSpots_2 : decode cX8_leaveBadSpots 2 = .ok (.iconst 0, 1) := by decide +kernel
theorem dX8_leaveBadSpots_3 : decode cX8_leaveBadSpots 3 = .ok (.istore_n 2, 1) := by decide +kernel
theorem dX8_leaveBadSpots_4 : decode cX8_leaveBadSpots 4 = .ok (.iload_n 2, 1) := by decide +kernel
theorem dX8_leaveBadSpots_5 : decode cX8_leaveBadSpots 5 = .ok (.aload_n 0, 1) := by decide +kernel
theorem dX8_leaveBadSpots_6 : decode cX8_leaveBadSpots 6 = .ok (.getfield 25, 3) := by decide +kernel
theorem dX8_leaveBadSpots_9 : decode cX8_leaveBadSpots 9 = .ok (.invokevirtual 63, 3) := by decide +kernel
theorem dX8_leaveBadSpots_12 : decode cX8_leaveBadSpots 12 = .ok (.if_icmp .ge 47, 3) := by decide +kernel
theorem dX8_leaveBadSpots_15 : decode cX8_leaveBadSpots 15 = .ok (.aload_n 0, 1) := by decide +kernel
theorem dX8_leaveBadSpots_16 : decode cX8_leaveBadSpots 16 = .ok (.getfield 25, 3) := by decide +kernel
theorem dX8_leaveBadSpots_19 : decode cX8_leaveBadSpots 19 = .ok (.iload_n 2, 1) := by decide +kernel
theorem dX8_leaveBadSpots_20 : decode cX8_leaveBadSpots 20 = .ok (.invokevirtual 66, 3) := by decide +kernel
theorem dX8_leaveBadSpots_23 : decode cX8_leaveBadSpots 23 = .ok (.ifCond .eq 11, 3) := by decide +kernel
theorem dX8_leaveBadSpots_26 : decode cX8_leaveBadSpots 26 = .ok (.aload_n 0, 1) := by decide +kernel
theorem dX8_leaveBadSpots_27 : decode cX8_leaveBadSpots 27 = .ok (.iload_n 2, 1) := by decide +kernel
theorem dX8_leaveBadSpots_28 : decode cX8_leaveBadSpots 28 = .ok (.invokevirtual 69, 3) := by decide +kernel
theorem dX8_leaveBadSpots_31 : decode cX8_leaveBadSpots 31 = .ok (.goto 4, 3) := by decide +kernel
theorem dX8_leaveBadSpots_34 : decode cX8_leaveBadSpots 34 = .ok (.iconst (-1), 1) := by decide +kernel
theorem dX8_leaveBadSpots_35 : decode cX8_leaveBadSpots 35 = .ok (.istore_n 3, 1) := by decide +kernel
theorem dX8_leaveBadSpots_36 : decode cX8_leaveBadSpots 36 = .ok (.iload_n 3, 1) := by decide +kernel
theorem dX8_leaveBadSpots_37 : decode cX8_leaveBadSpots 37 = .ok (.iconst (-1), 1) := by decide +kernel
theorem dX8_leaveBadSpots_38 : decode cX8_leaveBadSpots 38 = .ok (.if_icmp .eq 15, 3) := by decide +kernel
theorem dX8_leaveBadSpots_41 : decode cX8_leaveBadSpots 41 = .ok (.aload_n 0, 1) := by decide +kernel
theorem dX8_leaveBadSpots_42 : decode cX8_leaveBadSpots 42 = .ok (.getfield 25, 3) := by decide +kernel
theorem dX8_leaveBadSpots_45 : decode cX8_leaveBadSpots 45 = .ok (.iload_n 2, 1) := by decide +kernel
theorem dX8_leaveBadSpots_46 : decode cX8_leaveBadSpots 46 = .ok (.iload_n 3, 1) := by decide +kernel
theorem dX8_leaveBadSpots_47 : decode cX8_leaveBadSpots 47 = .ok (.invokevirtual 55, 3) := by decide +kernel
theorem dX8_leaveBadSpots_50 : decode cX8_leaveBadSpots 50 = .ok (.iinc 1 1, 3) := by decide +kernel
theorem dX8_leaveBadSpots_53 : decode cX8_leaveBadSpots 53 = .ok (.iinc 2 1, 3) := by decide +kernel
theorem dX8_leaveBadSpots_56 : decode cX8_leaveBadSpots 56 = .ok (.goto (-52), 3) := by decide +kernel
theorem dX8_leaveBadSpots_59 : decode cX8_leaveBadSpots 59 = .ok (.iload_n 1, 1) := by decide +kernel
theorem dX8_leaveBadSpots_60 : decode cX8_leaveBadSpots 60 = .ok (.ireturn, 1) := by decide +kernel
theorem dX8_exchangePairs_0 : decode cX8_exchangePairs 0 = .ok (.aload_n 0, 1) := by decide +kernel
theorem dX8_exchangePairs_1 : decode cX8_exchangePairs 1 = .ok (.getfield 25, 3) := by decide +kernel
theorem dX8_exchangePairs_4 : decode cX8_exchangePairs 4 = .ok (.aload_n 0, 1) := by decide +kernel
theorem dX8_exchangePairs_5 : decode cX8_exchangePairs 5 = .ok (.getfield 29, 3) := by decide +kernel
theorem dX8_exchangePairs_8 : decode cX8_exchangePairs 8 = .ok (.invokevirtual 59, 3) := by decide +kernel
theorem dX8_exchangePairs_11 : decode cX8_exchangePairs 11 = .ok (.istore_n 1, 1) := by decide +kernel
theorem dX8_exchangePairs_12 : decode cX8_exchangePairs 12 = .ok (.iconst 0, 1) := by decide +kernel
theorem dX8_exchangePairs_13 : decode cX8_exchangePairs 13 = .ok (.istore_n 2, 1) := by decide +kernel
theorem dX8_exchangePairs_14 : decode cX8_exchangePairs 14 = .ok (.iload_n 2, 1) := by decide +kernel
theorem dX8_exchangePairs_15 : decode cX8_exchangePairs 15 = .ok (.bipush 20, 2) := by decide +kernel
theorem dX8_exchangePairs_17 : decode cX8_exchangePairs 17 = .ok (.if_icmp .ge 25, 3) := by decide +kernel
theorem dX8_exchangePairs_20 : decode cX8_exchangePairs 20 = .ok (.aload_n 0, 1) := by decide +kernel
theorem dX8_exchangePairs_21 : decode cX8_exchangePairs 21 = .ok (.iload_n 1, 1) := by decide +kernel
theorem dX8_exchangePairs_22 : decode cX8_exchangePairs 22 = .ok (.invokevirtual 73, 3) := by decide +kernel
theorem dX8_exchangePairs_25 : decode cX8_exchangePairs 25 = .ok (.istore_n 3, 1) := by decide +kernel
theorem dX8_exchangePairs_26 : decode cX8_exchangePairs 26 = .ok (.iload_n 3, 1) := by decide +kernel
theorem dX8_exchangePairs_27 : decode cX8_exchangePairs 27 = .ok (.iload_n 1, 1) := by decide +kernel
theorem dX8_exchangePairs_28 : decode cX8_exchangePairs 28 = .ok (.if_icmp .ne 6, 3) := by decide +kernel
theorem dX8_exchangePairs_31 : decode cX8_exchangePairs 31 = .ok (.goto 11, 3) := by decide +kernel
theorem dX8_exchangePairs_34 : decode cX8_exchangePairs 34 = .ok (.iload_n 3, 1) := by decide +kernel
theorem dX8_exchangePairs_35 : decode cX8_exchangePairs 35 = .ok (.istore_n 1, 1) := by decide +kernel
theorem dX8_exchangePairs_36 : decode cX8_exchangePairs 36 = .ok (.iinc 2 1, 3) := by decide +kernel
theorem dX8_exchangePairs_39 : decode cX8_exchangePairs 39 = .ok (.goto (-25), 3) := by decide +kernel
theorem dX8_exchangePairs_42 : decode cX8_exchangePairs 42 = .ok (.iload_n 1, 1) := by decide +kernel
theorem dX8_exchangePairs_43 : decode cX8_exchangePairs 43 = .ok (.ireturn, 1) := by decide +kernel
theorem dX8_exchangeOnce_0 : decode cX8_exchangeOnce 0 = .ok (.iload_n 1, 1) := by decide +kernel
theorem dX8_exchangeOnce_1 : decode cX8_exchangeOnce 1 = .ok (.istore_n 2, 1) := by decide +kernel
theorem dX8_exchangeOnce_2 : decode cX8_exchangeOnce 2 = .ok (.aload_n 0, 1) := by decide +kernel
theorem dX8_exchangeOnce_3 : decode cX8_exchangeOnce 3 = .ok (.getfield 25, 3) := by decide +kernel
theorem dX8_exchangeOnce_6 : decode cX8_exchangeOnce 6 = .ok (.invokevirtual 63, 3) := by decide +kernel
theorem dX8_exchangeOnce_9 : decode cX8_exchangeOnce 9 = .ok (.istore_n 3, 1) := by decide +kernel
theorem dX8_exchangeOnce_10 : decode cX8_exchangeOnce 10 = .ok (.iconst 0, 1) := by decide +kernel
theorem dX8_exchangeOnce_11 : decode cX8_exchangeOnce 11 = .ok (.istore 4, 2) := by decide +kernel
theorem dX8_exchangeOnce_13 : decode cX8_exchangeOnce 13 = .ok (.iload 4, 2) := by decide +kernel
theorem dX8_exchangeOnce_15 : decode cX8_exchangeOnce 15 = .ok (.iload_n 3, 1) := by decide +kernel
theorem dX8_exchangeOnce_16 : decode cX8_exchangeOnce 16 = .ok (.if_icmp .ge 61, 3) := by decide +kernel
theorem dX8_exchangeOnce_19 : decode cX8_exchangeOnce 19 = .ok (.iload 4, 2) := by decide +kernel
theorem dX8_exchangeOnce_21 : decode cX8_exchangeOnce 21 = .ok (.iconst 1, 1) := by decide +kernel
theorem dX8_exchangeOnce_22 : decode cX8_exchangeOnce 22 = .ok (.iadd, 1) := by decide +kernel
theorem dX8_exchangeOnce_23 : decode cX8_exchangeOnce 23 = .ok (.istore 5, 2) := by decide +kernel
theorem dX8_exchangeOnce_25 : decode cX8_exchangeOnce 25 = .ok (.iload 5, 2) := by decide +kernel
theorem dX8_exchangeOnce_27 : decode cX8_exchangeOnce 27 = .ok (.iload_n 3, 1) := by decide +kernel
theorem dX8_exchangeOnce_28 : decode cX8_exchangeOnce 28 = .ok (.if_icmp .ge 43, 3) := by decide +kernel
theorem dX8_exchangeOnce_31 : decode cX8_exchangeOnce 31 = .ok (.aload_n 0, 1) := by decide +kernel
theorem dX8_exchangeOnce_32 : decode cX8_exchangeOnce 32 = .ok (.getfield 25, 3) := by decide +kernel
theorem dX8_exchangeOnce_35 : decode cX8_exchangeOnce 35 = .ok (.iload 4, 2) := by decide +kernel
theorem dX8_exchangeOnce_37 : decode cX8_exchangeOnce 37 = .ok (.invokevirtual 66, 3) := by decide +kernel
theorem dX8_exchangeOnce_40 : decode cX8_exchangeOnce 40 = .ok (.ifCond .ne 31, 3) := by decide +kernel
theorem dX8_exchangeOnce_43 : decode cX8_exchangeOnce 43 = .ok (.aload_n 0, 1) := by decide +kernel
theorem dX8_exchangeOnce_44 : decode cX8_exchangeOnce 44 = .ok (.getfield 25, 3) := by decide +kernel
theorem dX8_exchangeOnce_47 : decode cX8_exchangeOnce 47 = .ok (.iload 5, 2) := by decide +kernel
theorem dX8_exchangeOnce_49 : decode cX8_exchangeOnce 49 = .ok (.invokevirtual 66, 3) := by decide +kernel
theorem dX8_exchangeOnce_52 : decode cX8_exchangeOnce 52 = .ok (.ifCond .ne 13, 3) := by decide +kernel
theorem dX8_exchangeOnce_55 : decode cX8_exchangeOnce 55 = .ok (.aload_n 0, 1) := by decide +kernel
theorem dX8_exchangeOnce_56 : decode cX8_exchangeOnce 56 = .ok (.iload 4, 2) := by decide +kernel
theorem dX8_exchangeOnce_58 : decode cX8_exchangeOnce 58 = .ok (.iload 5, 2) := by decide +kernel
theorem dX8_exchangeOnce_60 : decode cX8_exchangeOnce 60 = .ok (.iload_n 2, 1) := by decide +kernel
theorem dX8_exchangeOnce_61 : decode cX8_exchangeOnce 61 = .ok (.invokevirtual 76, 3) := by decide +kernel
theorem dX8_exchangeOnce_64 : decode cX8_exchangeOnce 64 = .ok (.istore_n 2, 1) := by decide +kernel
theorem dX8_exchangeOnce_65 : decode cX8_exchangeOnce 65 = .ok (.iinc 5 1, 3) := by decide +kernel
theorem dX8_exchangeOnce_68 : decode cX8_exchangeOnce 68 = .ok (.goto (-43), 3) := by decide +kernel
theorem dX8_exchangeOnce_71 : decode cX8_exchangeOnce 71 = .ok (.iinc 4 1, 3) := by decide +kernel
theorem dX8_exchangeOnce_74 : decode cX8_exchangeOnce 74 = .ok (.goto (-61), 3) := by decide +kernel
theorem dX8_exchangeOnce_77 : decode cX8_exchangeOnce 77 = .ok (.iload_n 2, 1) := by decide +kernel
theorem dX8_exchangeOnce_78 : decode cX8_exchangeOnce 78 = .ok (.ireturn, 1) := by decide +kernel
theorem dX8_exchangeIfLess_0 : decode cX8_exchangeIfLess 0 = .ok (.aload_n 0, 1) := by decide +kernel
theorem dX8_exchangeIfLess_1 : decode cX8_exchangeIfLess 1 = .ok (.getfield 25, 3) := by decide +kernel
theorem dX8_exchangeIfLess_4 : decode cX8_exchangeIfLess 4 = .ok (.iload_n 1, 1) := by decide +kernel
theorem dX8_exchangeIfLess_5 : decode cX8_exchangeIfLess 5 = .ok (.iload_n 2, 1) := by decide +kernel
theorem dX8_exchangeIfLess_6 : decode cX8_exchangeIfLess 6 = .ok (.invokevirtual 80, 3) := by decide +kernel
theorem dX8_exchangeIfLess_9 : decode cX8_exchangeIfLess 9 = .ok (.ifCond .eq 5, 3) := by decide +kernel
theorem dX8_exchangeIfLess_12 : decode cX8_exchangeIfLess 12 = .ok (.iload_n 3, 1) := by decide +kernel
theorem dX8_exchangeIfLess_13 : decode cX8_exchangeIfLess 13 = .ok (.ireturn, 1) := by decide +kernel
theorem dX8_exchangeIfLess_14 : decode cX8_exchangeIfLess 14 = .ok (.aload_n 0, 1) := by decide +kernel
theorem dX8_exchangeIfLess_15 : decode cX8_exchangeIfLess 15 = .ok (.getfield 25, 3) := by decide +kernel
theorem dX8_exchangeIfLess_18 : decode cX8_exchangeIfLess 18 = .ok (.iload_n 1, 1) := by decide +kernel
theorem dX8_exchangeIfLess_19 : decode cX8_exchangeIfLess 19 = .ok (.iload_n 2, 1) := by decide +kernel
theorem dX8_exchangeIfLess_20 : decode cX8_exchangeIfLess 20 = .ok (.invokevirtual 84, 3) := by decide +kernel
theorem dX8_exchangeIfLess_23 : decode cX8_exchangeIfLess 23 = .ok (.aload_n 0, 1) := by decide +kernel
theorem dX8_exchangeIfLess_24 : decode cX8_exchangeIfLess 24 = .ok (.getfield 25, 3) := by decide +kernel
theorem dX8_exchangeIfLess_27 : decode cX8_exchangeIfLess 27 = .ok (.aload_n 0, 1) := by decide +kernel
theorem dX8_exchangeIfLess_28 : decode cX8_exchangeIfLess 28 = .ok (.getfield 29, 3) := by decide +kernel
theorem dX8_exchangeIfLess_31 : decode cX8_exchangeIfLess 31 = .ok (.invokevirtual 59, 3) := by decide +kernel
theorem dX8_exchangeIfLess_34 : decode cX8_exchangeIfLess 34 = .ok (.istore 4, 2) := by decide +kernel
theorem dX8_exchangeIfLess_36 : decode cX8_exchangeIfLess 36 = .ok (.iload 4, 2) := by decide +kernel
theorem dX8_exchangeIfLess_38 : decode cX8_exchangeIfLess 38 = .ok (.iload_n 3, 1) := by decide +kernel
theorem dX8_exchangeIfLess_39 : decode cX8_exchangeIfLess 39 = .ok (.if_icmp .ge 6, 3) := by decide +kernel
theorem dX8_exchangeIfLess_42 : decode cX8_exchangeIfLess 42 = .ok (.iload 4, 2) := by decide +kernel
theorem dX8_exchangeIfLess_44 : decode cX8_exchangeIfLess 44 = .ok (.ireturn, 1) := by decide +kernel
theorem dX8_exchangeIfLess_45 : decode cX8_exchangeIfLess 45 = .ok (.aload_n 0, 1) := by decide +kernel
theorem dX8_exchangeIfLess_46 : decode cX8_exchangeIfLess 46 = .ok (.getfield 25, 3) := by decide +kernel
theorem dX8_exchangeIfLess_49 : decode cX8_exchangeIfLess 49 = .ok (.iload_n 1, 1) := by decide +kernel
theorem dX8_exchangeIfLess_50 : decode cX8_exchangeIfLess 50 = .ok (.iload_n 2, 1) := by decide +kernel
theorem dX8_exchangeIfLess_51 : decode cX8_exchangeIfLess 51 = .ok (.invokevirtual 84, 3) := by decide +kernel
theorem dX8_exchangeIfLess_54 : decode cX8_exchangeIfLess 54 = .ok (.iload_n 3, 1) := by decide +kernel
theorem dX8_exchangeIfLess_55 : decode cX8_exchangeIfLess 55 = .ok (.ireturn, 1) := by decide +kernel
theorem dX8_choose_0 : decode cX8_choose 0 = .ok (.aload_n 0, 1) := by decide +kernel
theorem dX8_choose_1 : decode cX8_choose 1 = .ok (.iconst 0, 1) := by decide +kernel
theorem dX8_choose_2 : decode cX8_choose 2 = .ok (.putfield 87, 3) := by decide +kernel
theorem dX8_choose_5 : decode cX8_choose 5 = .ok (.iconst 0, 1) := by decide +kernel
theorem dX8_choose_6 : decode cX8_choose 6 = .ok (.istore_n 3, 1) := by decide +kernel
theorem dX8_choose_7 : decode cX8_choose 7 = .ok (.iload_n 3, 1) := by decide +kernel
theorem dX8_choose_8 : decode cX8_choose 8 = .ok (.aload_n 0, 1) := by decide +kernel
theorem dX8_choose_9 : decode cX8_choose 9 = .ok (.getfield 25, 3) := by decide +kernel
theorem dX8_choose_12 : decode cX8_choose 12 = .ok (.invokevirtual 63, 3) := by decide +kernel
theorem dX8_choose_15 : decode cX8_choose 15 = .ok (.if_icmp .ge 84, 3) := by decide +kernel
theorem dX8_choose_18 : decode cX8_choose 18 = .ok (.lload_n 1, 1) := by decide +kernel
theorem dX8_choose_19 : decode cX8_choose 19 = .ok (.iload_n 3, 1) := by decide +kernel
theorem dX8_choose_20 : decode cX8_choose 20 = .ok (.lushr, 1) := by decide +kernel
theorem dX8_choose_21 : decode cX8_choose 21 = .ok (.lconst 1, 1) := by decide +kernel
theorem dX8_choose_22 : decode cX8_choose 22 = .ok (.land, 1) := by decide +kernel
theorem dX8_choose_23 : decode cX8_choose 23 = .ok (.lconst 0, 1) := by decide +kernel
theorem dX8_choose_24 : decode cX8_choose 24 = .ok (.lcmp, 1) := by decide +kernel
theorem dX8_choose_25 : decode cX8_choose 25 = .ok (.ifCond .eq 68, 3) := by decide +kernel
theorem dX8_choose_28 : decode cX8_choose 28 = .ok (.aload_n 0, 1) := by decide +kernel
theorem dX8_choose_29 : decode cX8_choose 29 = .ok (.getfield 87, 3) := by decide +kernel
theorem dX8_choose_32 : decode cX8_choose 32 = .ok (.ifCond .lt 61, 3) := by decide +kernel
theorem dX8_choose_35 : decode cX8_choose 35 = .ok (.aload_n 0, 1) := by decide +kernel
theorem dX8_choose_36 : decode cX8_choose 36 = .ok (.getfield 87, 3) := by decide +kernel
theorem dX8_choose_39 : decode cX8_choose 39 = .ok (.bipush 6, 2) := by decide +kernel
theorem dX8_choose_41 : decode cX8_choose 41 = .ok (.if_icmp .lt 6, 3) := by decide +kernel
theorem dX8_choose_44 : decode cX8_choose 44 = .ok (.goto 49, 3) := by decide +kernel
theorem dX8_choose_47 : decode cX8_choose 47 = .ok (.aload_n 0, 1) := by decide +kernel
theorem dX8_choose_48 : decode cX8_choose 48 = .ok (.getfield 25, 3) := by decide +kernel
theorem dX8_choose_51 : decode cX8_choose 51 = .ok (.iload_n 3, 1) := by decide +kernel
theorem dX8_choose_52 : decode cX8_choose 52 = .ok (.invokevirtual 66, 3) := by decide +kernel
theorem dX8_choose_55 : decode cX8_choose 55 = .ok (.ifCond .eq 5, 3) := by decide +kernel
theorem dX8_choose_58 : decode cX8_choose 58 = .ok (.iconst 0, 1) := by decide +kernel
theorem dX8_choose_59 : decode cX8_choose 59 = .ok (.ireturn, 1) := by decide +kernel
theorem dX8_choose_60 : decode cX8_choose 60 = .ok (.aload_n 0, 1) := by decide +kernel
theorem dX8_choose_61 : decode cX8_choose 61 = .ok (.getfield 11, 3) := by decide +kernel
theorem dX8_choose_64 : decode cX8_choose 64 = .ok (.aload_n 0, 1) := by decide +kernel
theorem dX8_choose_65 : decode cX8_choose 65 = .ok (.getfield 87, 3) := by decide +kernel
theorem dX8_choose_68 : decode cX8_choose 68 = .ok (.iload_n 3, 1) := by decide +kernel
theorem dX8_choose_69 : decode cX8_choose 69 = .ok (.iastore, 1) := by decide +kernel
theorem dX8_choose_70 : decode cX8_choose 70 = .ok (.aload_n 0, 1) := by decide +kernel
theorem dX8_choose_71 : decode cX8_choose 71 = .ok (.aload_n 0, 1) := by decide +kernel
theorem dX8_choose_72 : decode cX8_choose 72 = .ok (.getfield 25, 3) := by decide +kernel
theorem dX8_choose_75 : decode cX8_choose 75 = .ok (.getfield 33, 3) := by decide +kernel
theorem dX8_choose_78 : decode cX8_choose 78 = .ok (.iload_n 3, 1) := by decide +kernel
theorem dX8_choose_79 : decode cX8_choose 79 = .ok (.iaload, 1) := by decide +kernel
theorem dX8_choose_80 : decode cX8_choose 80 = .ok (.invokevirtual 91, 3) := by decide +kernel
theorem dX8_choose_83 : decode cX8_choose 83 = .ok (.aload_n 0, 1) := by decide +kernel
theorem dX8_choose_84 : decode cX8_choose 84 = .ok (.dup, 1) := by decide +kernel
theorem dX8_choose_85 : decode cX8_choose 85 = .ok (.getfield 87, 3) := by decide +kernel
theorem dX8_choose_88 : decode cX8_choose 88 = .ok (.iconst 1, 1) := by decide +kernel
theorem dX8_choose_89 : decode cX8_choose 89 = .ok (.iadd, 1) := by decide +kernel
theorem dX8_choose_90 : decode cX8_choose 90 = .ok (.putfield 87, 3) := by decide +kernel
theorem dX8_choose_93 : decode cX8_choose 93 = .ok (.iinc 3 1, 3) := by decide +kernel
theorem dX8_choose_96 : decode cX8_choose 96 = .ok (.goto (-89), 3) := by decide +kernel
theorem dX8_choose_99 : decode cX8_choose 99 = .ok (.iconst 1, 1) := by decide +kernel
theorem dX8_choose_100 : decode cX8_choose 100 = .ok (.ireturn, 1) := by decide +kernel
theorem dX8_sortIn_0 : decode cX8_sortIn 0 = .ok (.aload_n 0, 1) := by decide +kernel
theorem dX8_sortIn_1 : decode cX8_sortIn 1 = .ok (.getfield 87, 3) := by decide +kernel
theorem dX8_sortIn_4 : decode cX8_sortIn 4 = .ok (.istore_n 2, 1) := by decide +kernel
theorem dX8_sortIn_5 : decode cX8_sortIn 5 = .ok (.iload_n 2, 1) := by decide +kernel
theorem dX8_sortIn_6 : decode cX8_sortIn 6 = .ok (.ifCond .le 41, 3) := by decide +kernel
theorem dX8_sortIn_9 : decode cX8_sortIn 9 = .ok (.iload_n 2, 1) := by decide +kernel
theorem dX8_sortIn_10 : decode cX8_sortIn 10 = .ok (.bipush 6, 2) := by decide +kernel
theorem dX8_sortIn_12 : decode cX8_sortIn 12 = .ok (.if_icmp .ge 35, 3) := by decide +kernel
theorem dX8_sortIn_15 : decode cX8_sortIn 15 = .ok (.aload_n 0, 1) := by decide +kernel
theorem dX8_sortIn_16 : decode cX8_sortIn 16 = .ok (.getfield 15, 3) := by decide +kernel
theorem dX8_sortIn_19 : decode cX8_sortIn 19 = .ok (.iload_n 2, 1) := by decide +kernel
theorem dX8_sortIn_20 : decode cX8_sortIn 20 = .ok (.iconst 1, 1) := by decide +kernel
theorem dX8_sortIn_21 : decode cX8_sortIn 21 = .ok (.isub, 1) := by decide +kernel
theorem dX8_sortIn_22 : decode cX8_sortIn 22 = .ok (.iaload, 1) := by decide +kernel
theorem dX8_sortIn_23 : decode cX8_sortIn 23 = .ok (.iload_n 1, 1) := by decide +kernel
theorem dX8_sortIn_24 : decode cX8_sortIn 24 = .ok (.if_icmp .le 23, 3) := by decide +kernel
theorem dX8_sortIn_27 : decode cX8_sortIn 27 = .ok (.aload_n 0, 1) := by decide +kernel
theorem dX8_sortIn_28 : decode cX8_sortIn 28 = .ok (.getfield 15, 3) := by decide +kernel
theorem dX8_sortIn_31 : decode cX8_sortIn 31 = .ok (.iload_n 2, 1) := by decide +kernel
theorem dX8_sortIn_32 : decode cX8_sortIn 32 = .ok (.aload_n 0, 1) := by decide +kernel
theorem dX8_sortIn_33 : decode cX8_sortIn 33 = .ok (.getfield 15, 3) := by decide +kernel
theorem dX8_sortIn_36 : decode cX8_sortIn 36 = .ok (.iload_n 2, 1) := by decide +kernel
theorem dX8_sortIn_37 : decode cX8_sortIn 37 = .ok (.iconst 1, 1) := by decide +kernel
theorem dX8_sortIn_38 : decode cX8_sortIn 38 = .ok (.isub, 1) := by decide +kernel
theorem dX8_sortIn_39 : decode cX8_sortIn 39 = .ok (.iaload, 1) := by decide +kernel
theorem dX8_sortIn_40 : decode cX8_sortIn 40 = .ok (.iastore, 1) := by decide +kernel
theorem dX8_sortIn_41 : decode cX8_sortIn 41 = .ok (.iinc 2 (-1), 3) := by decide +kernel
theorem dX8_sortIn_44 : decode cX8_sortIn 44 = .ok (.goto (-39), 3) := by decide +kernel
theorem dX8_sortIn_47 : decode cX8_sortIn 47 = .ok (.iload_n 2, 1) := by decide +kernel
theorem dX8_sortIn_48 : decode cX8_sortIn 48 = .ok (.ifCond .lt 16, 3) := by decide +kernel
theorem dX8_sortIn_51 : decode cX8_sortIn 51 = .ok (.iload_n 2, 1) := by decide +kernel
theorem dX8_sortIn_52 : decode cX8_sortIn 52 = .ok (.bipush 6, 2) := by decide +kernel
theorem dX8_sortIn_54 : decode cX8_sortIn 54 = .ok (.if_icmp .ge 10, 3) := by decide +kernel
theorem dX8_sortIn_57 : decode cX8_sortIn 57 = .ok (.aload_n 0, 1) := by decide +kernel
theorem dX8_sortIn_58 : decode cX8_sortIn 58 = .ok (.getfield 15, 3) := by decide +kernel
theorem dX8_sortIn_61 : decode cX8_sortIn 61 = .ok (.iload_n 2, 1) := by decide +kernel
theorem dX8_sortIn_62 : decode cX8_sortIn 62 = .ok (.iload_n 1, 1) := by decide +kernel
theorem dX8_sortIn_63 : decode cX8_sortIn 63 = .ok (.iastore, 1) := by decide +kernel
theorem dX8_sortIn_64 : decode cX8_sortIn 64 = .ok (.return_, 1) := by decide +kernel
theorem dX8_layBestRow_0 : decode cX8_layBestRow 0 = .ok (.iconst (-1), 1) := by decide +kernel
theorem dX8_layBestRow_1 : decode cX8_layBestRow 1 = .ok (.istore_n 1, 1) := by decide +kernel
theorem dX8_layBestRow_2 : decode cX8_layBestRow 2 = .ok (.iconst 1, 1) := by decide +kernel
theorem dX8_layBestRow_3 : decode cX8_layBestRow 3 = .ok (.istore_n 2, 1) := by decide +kernel
theorem dX8_layBestRow_4 : decode cX8_layBestRow 4 = .ok (.iconst 0, 1) := by decide +kernel
theorem dX8_layBestRow_5 : decode cX8_layBestRow 5 = .ok (.istore_n 3, 1) := by decide +kernel
theorem dX8_layBestRow_6 : decode cX8_layBestRow 6 = .ok (.iload_n 3, 1) := by decide +kernel
theorem dX8_layBestRow_7 : decode cX8_layBestRow 7 = .ok (.sipush 720, 3) := by decide +kernel
theorem dX8_layBestRow_10 : decode cX8_layBestRow 10 = .ok (.if_icmp .ge 68, 3) := by decide +kernel
theorem dX8_layBestRow_13 : decode cX8_layBestRow 13 = .ok (.iload_n 2, 1) := by decide +kernel
theorem dX8_layBestRow_14 : decode cX8_layBestRow 14 = .ok (.ifCond .eq 64, 3) := by decide +kernel
theorem dX8_layBestRow_17 : decode cX8_layBestRow 17 = .ok (.aload_n 0, 1) := by decide +kernel
theorem dX8_layBestRow_18 : decode cX8_layBestRow 18 = .ok (.aload_n 0, 1) := by decide +kernel
theorem dX8_layBestRow_19 : decode cX8_layBestRow 19 = .ok (.getfield 15, 3) := by decide +kernel
theorem dX8_layBestRow_22 : decode cX8_layBestRow 22 = .ok (.invokevirtual 95, 3) := by decide +kernel
theorem dX8_layBestRow_25 : decode cX8_layBestRow 25 = .ok (.aload_n 0, 1) := by decide +kernel
theorem dX8_layBestRow_26 : decode cX8_layBestRow 26 = .ok (.getfield 25, 3) := by decide +kernel
theorem dX8_layBestRow_29 : decode cX8_layBestRow 29 = .ok (.aload_n 0, 1) := by decide +kernel
theorem dX8_layBestRow_30 : decode cX8_layBestRow 30 = .ok (.getfield 29, 3) := by decide +kernel
theorem dX8_layBestRow_33 : decode cX8_layBestRow 33 = .ok (.invokevirtual 59, 3) := by decide +kernel
theorem dX8_layBestRow_36 : decode cX8_layBestRow 36 = .ok (.istore 4, 2) := by decide +kernel
theorem dX8_layBestRow_38 : decode cX8_layBestRow 38 = .ok (.iload_n 1, 1) := by decide +kernel
theorem dX8_layBestRow_39 : decode cX8_layBestRow 39 = .ok (.iconst (-1), 1) := by decide +kernel
theorem dX8_layBestRow_40 : decode cX8_layBestRow 40 = .ok (.if_icmp .eq 9, 3) := by decide +kernel
theorem dX8_layBestRow_43 : decode cX8_layBestRow 43 = .ok (.iload 4, 2) := by decide +kernel
theorem dX8_layBestRow_45 : decode cX8_layBestRow 45 = .ok (.iload_n 1, 1) := by decide +kernel
theorem dX8_layBestRow_46 : decode cX8_layBestRow 46 = .ok (.if_icmp .ge 21, 3) := by decide +kernel
theorem dX8_layBestRow_49 : decode cX8_layBestRow 49 = .ok (.iload 4, 2) := by decide +kernel
theorem dX8_layBestRow_51 : decode cX8_layBestRow 51 = .ok (.istore_n 1, 1) := by decide +kernel
theorem dX8_layBestRow_52 : decode cX8_layBestRow 52 = .ok (.aload_n 0, 1) := by decide +kernel
theorem dX8_layBestRow_53 : decode cX8_layBestRow 53 = .ok (.getfield 15, 3) := by decide +kernel
theorem dX8_layBestRow_56 : decode cX8_layBestRow 56 = .ok (.iconst 0, 1) := by decide +kernel
theorem dX8_layBestRow_57 : decode cX8_layBestRow 57 = .ok (.aload_n 0, 1) := by decide +kernel
theorem dX8_layBestRow_58 : decode cX8_layBestRow 58 = .ok (.getfield 18, 3) := by decide +kernel
theorem dX8_layBestRow_61 : decode cX8_layBestRow 61 = .ok (.iconst 0, 1) := by decide +kernel
theorem dX8_layBestRow_62 : decode cX8_layBestRow 62 = .ok (.bipush 6, 2) := by decide +kernel
theorem dX8_layBestRow_64 : decode cX8_layBestRow 64 = .ok (.invokestatic 99, 3) := by decide +kernel
theorem dX8_layBestRow_67 : decode cX8_layBestRow 67 = .ok (.aload_n 0, 1) := by decide +kernel
theorem dX8_layBestRow_68 : decode cX8_layBestRow 68 = .ok (.invokevirtual 105, 3) := by decide +kernel
theorem dX8_layBestRow_71 : decode cX8_layBestRow 71 = .ok (.istore_n 2, 1) := by decide +kernel
theorem dX8_layBestRow_72 : decode cX8_layBestRow 72 = .ok (.iinc 3 1, 3) := by decide +kernel
theorem dX8_layBestRow_75 : decode cX8_layBestRow 75 = .ok (.goto (-69), 3) := by decide +kernel
theorem dX8_layBestRow_78 : decode cX8_layBestRow 78 = .ok (.aload_n 0, 1) := by decide +kernel
theorem dX8_layBestRow_79 : decode cX8_layBestRow 79 = .ok (.aload_n 0, 1) := by decide +kernel
theorem dX8_layBestRow_80 : decode cX8_layBestRow 80 = .ok (.getfield 18, 3) := by decide +kernel
theorem dX8_layBestRow_83 : decode cX8_layBestRow 83 = .ok (.invokevirtual 95, 3) := by decide +kernel
theorem dX8_layBestRow_86 : decode cX8_layBestRow 86 = .ok (.iload_n 1, 1) := by decide +kernel
theorem dX8_layBestRow_87 : decode cX8_layBestRow 87 = .ok (.ireturn, 1) := by decide +kernel
theorem dX8_layRow_0 : decode cX8_layRow 0 = .ok (.iconst 0, 1) := by decide +kernel
theorem dX8_layRow_1 : decode cX8_layRow 1 = .ok (.istore_n 2, 1) := by decide +kernel
theorem dX8_layRow_2 : decode cX8_layRow 2 = .ok (.iload_n 2, 1) := by decide +kernel
theorem dX8_layRow_3 : decode cX8_layRow 3 = .ok (.aload_n 0, 1) := by decide +kernel
theorem dX8_layRow_4 : decode cX8_layRow 4 = .ok (.getfield 87, 3) := by decide +kernel
theorem dX8_layRow_7 : decode cX8_layRow 7 = .ok (.if_icmp .ge 37, 3) := by decide +kernel
theorem dX8_layRow_10 : decode cX8_layRow 10 = .ok (.iload_n 2, 1) := by decide +kernel
theorem dX8_layRow_11 : decode cX8_layRow 11 = .ok (.bipush 6, 2) := by decide +kernel
theorem dX8_layRow_13 : decode cX8_layRow 13 = .ok (.if_icmp .ge 31, 3) := by decide +kernel
theorem dX8_layRow_16 : decode cX8_layRow 16 = .ok (.iload_n 2, 1) := by decide +kernel
theorem dX8_layRow_17 : decode cX8_layRow 17 = .ok (.aload_n 1, 1) := by decide +kernel
theorem dX8_layRow_18 : decode cX8_layRow 18 = .ok (.arraylength, 1) := by decide +kernel
theorem dX8_layRow_19 : decode cX8_layRow 19 = .ok (.if_icmp .ge 25, 3) := by decide +kernel
theorem dX8_layRow_22 : decode cX8_layRow 22 = .ok (.aload_n 0, 1) := by decide +kernel
theorem dX8_layRow_23 : decode cX8_layRow 23 = .ok (.getfield 25, 3) := by decide +kernel
theorem dX8_layRow_26 : decode cX8_layRow 26 = .ok (.aload_n 0, 1) := by decide +kernel
theorem dX8_layRow_27 : decode cX8_layRow 27 = .ok (.getfield 11, 3) := by decide +kernel
theorem dX8_layRow_30 : decode cX8_layRow 30 = .ok (.iload_n 2, 1) := by decide +kernel
theorem dX8_layRow_31 : decode cX8_layRow 31 = .ok (.iaload, 1) := by decide +kernel
theorem dX8_layRow_32 : decode cX8_layRow 32 = .ok (.aload_n 1, 1) := by decide +kernel
theorem dX8_layRow_33 : decode cX8_layRow 33 = .ok (.iload_n 2, 1) := by decide +kernel
theorem dX8_layRow_34 : decode cX8_layRow 34 = .ok (.iaload, 1) := by decide +kernel
theorem dX8_layRow_35 : decode cX8_layRow 35 = .ok (.invokevirtual 109, 3) := by decide +kernel
theorem dX8_layRow_38 : decode cX8_layRow 38 = .ok (.iinc 2 1, 3) := by decide +kernel
theorem dX8_layRow_41 : decode cX8_layRow 41 = .ok (.goto (-39), 3) := by decide +kernel
theorem dX8_layRow_44 : decode cX8_layRow 44 = .ok (.return_, 1) := by decide +kernel
theorem dX8_nextRow_0 : decode cX8_nextRow 0 = .ok (.aload_n 0, 1) := by decide +kernel
theorem dX8_nextRow_1 : decode cX8_nextRow 1 = .ok (.getfield 87, 3) := by decide +kernel
theorem dX8_nextRow_4 : decode cX8_nextRow 4 = .ok (.bipush 6, 2) := by decide +kernel
theorem dX8_nextRow_6 : decode cX8_nextRow 6 = .ok (.invokestatic 112, 3) := by decide +kernel
theorem dX8_nextRow_9 : decode cX8_nextRow 9 = .ok (.iconst 2, 1) := by decide +kernel
theorem dX8_nextRow_10 : decode cX8_nextRow 10 = .ok (.isub, 1) := by decide +kernel
theorem dX8_nextRow_11 : decode cX8_nextRow 11 = .ok (.istore_n 1, 1) := by decide +kernel
theorem dX8_nextRow_12 : decode cX8_nextRow 12 = .ok (.iload_n 1, 1) := by decide +kernel
theorem dX8_nextRow_13 : decode cX8_nextRow 13 = .ok (.ifCond .lt 26, 3) := by decide +kernel
theorem dX8_nextRow_16 : decode cX8_nextRow 16 = .ok (.aload_n 0, 1) := by decide +kernel
theorem dX8_nextRow_17 : decode cX8_nextRow 17 = .ok (.getfield 15, 3) := by decide +kernel
theorem dX8_nextRow_20 : decode cX8_nextRow 20 = .ok (.iload_n 1, 1) := by decide +kernel
theorem dX8_nextRow_21 : decode cX8_nextRow 21 = .ok (.iaload, 1) := by decide +kernel
theorem dX8_nextRow_22 : decode cX8_nextRow 22 = .ok (.aload_n 0, 1) := by decide +kernel
theorem dX8_nextRow_23 : decode cX8_nextRow 23 = .ok (.getfield 15, 3) := by decide +kernel
theorem dX8_nextRow_26 : decode cX8_nextRow 26 = .ok (.iload_n 1, 1) := by decide +kernel
theorem dX8_nextRow_27 : decode cX8_nextRow 27 = .ok (.iconst 1, 1) := by decide +kernel
theorem dX8_nextRow_28 : decode cX8_nextRow 28 = .ok (.iadd, 1) := by decide +kernel
theorem dX8_nextRow_29 : decode cX8_nextRow 29 = .ok (.iaload, 1) := by decide +kernel
theorem dX8_nextRow_30 : decode cX8_nextRow 30 = .ok (.if_icmp .le 9, 3) := by decide +kernel
theorem dX8_nextRow_33 : decode cX8_nextRow 33 = .ok (.iinc 1 (-1), 3) := by decide +kernel
theorem dX8_nextRow_36 : decode cX8_nextRow 36 = .ok (.goto (-24), 3) := by decide +kernel
theorem dX8_nextRow_39 : decode cX8_nextRow 39 = .ok (.iload_n 1, 1) := by decide +kernel
theorem dX8_nextRow_40 : decode cX8_nextRow 40 = .ok (.ifCond .ge 5, 3) := by decide +kernel
theorem dX8_nextRow_43 : decode cX8_nextRow 43 = .ok (.iconst 0, 1) := by decide +kernel
theorem dX8_nextRow_44 : decode cX8_nextRow 44 = .ok (.ireturn, 1) := by decide +kernel
theorem dX8_nextRow_45 : decode cX8_nextRow 45 = .ok (.aload_n 0, 1) := by decide +kernel
theorem dX8_nextRow_46 : decode cX8_nextRow 46 = .ok (.getfield 87, 3) := by decide +kernel
theorem dX8_nextRow_49 : decode cX8_nextRow 49 = .ok (.bipush 6, 2) := by decide +kernel
theorem dX8_nextRow_51 : decode cX8_nextRow 51 = .ok (.invokestatic 112, 3) := by decide +kernel
theorem dX8_nextRow_54 : decode cX8_nextRow 54 = .ok (.iconst 1, 1) := by decide +kernel
theorem dX8_nextRow_55 : decode cX8_nextRow 55 = .ok (.isub, 1) := by decide +kernel
theorem dX8_nextRow_56 : decode cX8_nextRow 56 = .ok (.istore_n 2, 1) := by decide +kernel
theorem dX8_nextRow_57 : decode cX8_nextRow 57 = .ok (.iload_n 2, 1) := by decide +kernel
theorem dX8_nextRow_58 : decode cX8_nextRow 58 = .ok (.iload_n 1, 1) := by decide +kernel
theorem dX8_nextRow_59 : decode cX8_nextRow 59 = .ok (.if_icmp .le 24, 3) := by decide +kernel
theorem dX8_nextRow_62 : decode cX8_nextRow 62 = .ok (.aload_n 0, 1) := by decide +kernel
theorem dX8_nextRow_63 : decode cX8_nextRow 63 = .ok (.getfield 15, 3) := by decide +kernel
theorem dX8_nextRow_66 : decode cX8_nextRow 66 = .ok (.iload_n 2, 1) := by decide +kernel
theorem dX8_nextRow_67 : decode cX8_nextRow 67 = .ok (.iaload, 1) := by decide +kernel
theorem dX8_nextRow_68 : decode cX8_nextRow 68 = .ok (.aload_n 0, 1) := by decide +kernel
theorem dX8_nextRow_69 : decode cX8_nextRow 69 = .ok (.getfield 15, 3) := by decide +kernel
theorem dX8_nextRow_72 : decode cX8_nextRow 72 = .ok (.iload_n 1, 1) := by decide +kernel
theorem dX8_nextRow_73 : decode cX8_nextRow 73 = .ok (.iaload, 1) := by decide +kernel
theorem dX8_nextRow_74 : decode cX8_nextRow 74 = .ok (.if_icmp .ge 9, 3) := by decide +kernel
theorem dX8_nextRow_77 : decode cX8_nextRow 77 = .ok (.iinc 2 (-1), 3) := by decide +kernel
theorem dX8_nextRow_80 : decode cX8_nextRow 80 = .ok (.goto (-23), 3) := by decide +kernel
theorem dX8_nextRow_83 : decode cX8_nextRow 83 = .ok (.aload_n 0, 1) := by decide +kernel
theorem dX8_nextRow_84 : decode cX8_nextRow 84 = .ok (.iload_n 1, 1) := by decide +kernel
theorem dX8_nextRow_85 : decode cX8_nextRow 85 = .ok (.iload_n 2, 1) := by decide +kernel
theorem dX8_nextRow_86 : decode cX8_nextRow 86 = .ok (.invokevirtual 118, 3) := by decide +kernel
theorem dX8_nextRow_89 : decode cX8_nextRow 89 = .ok (.iload_n 1, 1) := by decide +kernel
theorem dX8_nextRow_90 : decode cX8_nextRow 90 = .ok (.iconst 1, 1) := by decide +kernel
theorem dX8_nextRow_91 : decode cX8_nextRow 91 = .ok (.iadd, 1) := by decide +kernel
theorem dX8_nextRow_92 : decode cX8_nextRow 92 = .ok (.istore_n 3, 1) := by decide +kernel
theorem dX8_nextRow_93 : decode cX8_nextRow 93 = .ok (.aload_n 0, 1) := by decide +kernel
theorem dX8_nextRow_94 : decode cX8_nextRow 94 = .ok (.getfield 87, 3) := by decide +kernel
theorem dX8_nextRow_97 : decode cX8_nextRow 97 = .ok (.bipush 6, 2) := by decide +kernel
theorem dX8_nextRow_99 : decode cX8_nextRow 99 = .ok (.invokestatic 112, 3) := by decide +kernel
theorem dX8_nextRow_102 : decode cX8_nextRow 102 = .ok (.iconst 1, 1) := by decide +kernel
theorem dX8_nextRow_103 : decode cX8_nextRow 103 = .ok (.isub, 1) := by decide +kernel
theorem dX8_nextRow_104 : decode cX8_nextRow 104 = .ok (.istore 4, 2) := by decide +kernel
theorem dX8_nextRow_106 : decode cX8_nextRow 106 = .ok (.iload_n 3, 1) := by decide +kernel
theorem dX8_nextRow_107 : decode cX8_nextRow 107 = .ok (.iload 4, 2) := by decide +kernel
theorem dX8_nextRow_109 : decode cX8_nextRow 109 = .ok (.if_icmp .ge 19, 3) := by decide +kernel
theorem dX8_nextRow_112 : decode cX8_nextRow 112 = .ok (.aload_n 0, 1) := by decide +kernel
theorem dX8_nextRow_113 : decode cX8_nextRow 113 = .ok (.iload_n 3, 1) := by decide +kernel
theorem dX8_nextRow_114 : decode cX8_nextRow 114 = .ok (.iload 4, 2) := by decide +kernel
theorem dX8_nextRow_116 : decode cX8_nextRow 116 = .ok (.invokevirtual 118, 3) := by decide +kernel
theorem dX8_nextRow_119 : decode cX8_nextRow 119 = .ok (.iinc 3 1, 3) := by decide +kernel
theorem dX8_nextRow_122 : decode cX8_nextRow 122 = .ok (.iinc 4 (-1), 3) := by decide +kernel
theorem dX8_nextRow_125 : decode cX8_nextRow 125 = .ok (.goto (-19), 3) := by decide +kernel
theorem dX8_nextRow_128 : decode cX8_nextRow 128 = .ok (.iconst 1, 1) := by decide +kernel
theorem dX8_nextRow_129 : decode cX8_nextRow 129 = .ok (.ireturn, 1) := by decide +kernel
theorem dX8_swapSpots_0 : decode cX8_swapSpots 0 = .ok (.aload_n 0, 1) := by decide +kernel
theorem dX8_swapSpots_1 : decode cX8_swapSpots 1 = .ok (.getfield 15, 3) := by decide +kernel
theorem dX8_swapSpots_4 : decode cX8_swapSpots 4 = .ok (.iload_n 1, 1) := by decide +kernel
theorem dX8_swapSpots_5 : decode cX8_swapSpots 5 = .ok (.iaload, 1) := by decide +kernel
theorem dX8_swapSpots_6 : decode cX8_swapSpots 6 = .ok (.istore_n 3, 1) := by decide +kernel
theorem dX8_swapSpots_7 : decode cX8_swapSpots 7 = .ok (.aload_n 0, 1) := by decide +kernel
theorem dX8_swapSpots_8 : decode cX8_swapSpots 8 = .ok (.getfield 15, 3) := by decide +kernel
theorem dX8_swapSpots_11 : decode cX8_swapSpots 11 = .ok (.iload_n 1, 1) := by decide +kernel
theorem dX8_swapSpots_12 : decode cX8_swapSpots 12 = .ok (.aload_n 0, 1) := by decide +kernel
theorem dX8_swapSpots_13 : decode cX8_swapSpots 13 = .ok (.getfield 15, 3) := by decide +kernel
theorem dX8_swapSpots_16 : decode cX8_swapSpots 16 = .ok (.iload_n 2, 1) := by decide +kernel
theorem dX8_swapSpots_17 : decode cX8_swapSpots 17 = .ok (.iaload, 1) := by decide +kernel
theorem dX8_swapSpots_18 : decode cX8_swapSpots 18 = .ok (.iastore, 1) := by decide +kernel
theorem dX8_swapSpots_19 : decode cX8_swapSpots 19 = .ok (.aload_n 0, 1) := by decide +kernel
theorem dX8_swapSpots_20 : decode cX8_swapSpots 20 = .ok (.getfield 15, 3) := by decide +kernel
theorem dX8_swapSpots_23 : decode cX8_swapSpots 23 = .ok (.iload_n 2, 1) := by decide +kernel
theorem dX8_swapSpots_24 : decode cX8_swapSpots 24 = .ok (.iload_n 3, 1) := by decide +kernel
theorem dX8_swapSpots_25 : decode cX8_swapSpots 25 = .ok (.iastore, 1) := by decide +kernel
theorem dX8_swapSpots_26 : decode cX8_swapSpots 26 = .ok (.return_, 1) := by decide +kernel
theorem dX9_init_0 : decode cX9_init 0 = .ok (.aload_n 0, 1) := by decide +kernel
theorem dX9_init_1 : decode cX9_init 1 = .ok (.invokespecial 3, 3) := by decide +kernel
theorem dX9_init_4 : decode cX9_init 4 = .ok (.aload_n 0, 1) := by decide +kernel
theorem dX9_init_5 : decode cX9_init 5 = .ok (.sipush 1200, 3) := by decide +kernel
theorem dX9_init_8 : decode cX9_init 8 = .ok (.newarray .byte, 2) := by decide +kernel
theorem dX9_init_10 : decode cX9_init 10 = .ok (.putfield 11, 3) := by decide +kernel
theorem dX9_init_13 : decode cX9_init 13 = .ok (.aload_n 0, 1) := by decide +kernel
theorem dX9_init_14 : decode cX9_init 14 = .ok (.iconst (-1), 1) := by decide +kernel
theorem dX9_init_15 : decode cX9_init 15 = .ok (.putfield 15, 3) := by decide +kernel
theorem dX9_init_18 : decode cX9_init 18 = .ok (.return_, 1) := by decide +kernel
theorem dX9_hasRoomFor_0 : decode cX9_hasRoomFor 0 = .ok (.aload_n 0, 1) := by decide +kernel
theorem dX9_hasRoomFor_1 : decode cX9_hasRoomFor 1 = .ok (.getfield 19, 3) := by decide +kernel
theorem dX9_hasRoomFor_4 : decode cX9_hasRoomFor 4 = .ok (.iload_n 1, 1) := by decide +kernel
theorem dX9_hasRoomFor_5 : decode cX9_hasRoomFor 5 = .ok (.iadd, 1) := by decide +kernel
theorem dX9_hasRoomFor_6 : decode cX9_hasRoomFor 6 = .ok (.sipush 1200, 3) := by decide +kernel
theorem dX9_hasRoomFor_9 : decode cX9_hasRoomFor 9 = .ok (.if_icmp .gt 7, 3) := by decide +kernel
theorem dX9_hasRoomFor_12 : decode cX9_hasRoomFor 12 = .ok (.iconst 1, 1) := by decide +kernel
theorem dX9_hasRoomFor_13 : decode cX9_hasRoomFor 13 = .ok (.goto 4, 3) := by decide +kernel
theorem dX9_hasRoomFor_16 : decode cX9_hasRoomFor 16 = .ok (.iconst 0, 1) := by decide +kernel
theorem dX9_hasRoomFor_17 : decode cX9_hasRoomFor 17 = .ok (.ireturn, 1) := by decide +kernel
theorem dX9_append_0 : decode cX9_append 0 = .ok (.bipush 24, 2) := by decide +kernel
theorem dX9_append_2 : decode cX9_append 2 = .ok (.istore_n 2, 1) := by decide +kernel
theorem dX9_append_3 : decode cX9_append 3 = .ok (.iload_n 2, 1) := by decide +kernel
theorem dX9_append_4 : decode cX9_append 4 = .ok (.ifCond .lt 49, 3) := by decide +kernel
theorem dX9_append_7 : decode cX9_append 7 = .ok (.aload_n 0, 1) := by decide +kernel
theorem dX9_append_8 : decode cX9_append 8 = .ok (.getfield 19, 3) := by decide +kernel
theorem dX9_append_11 : decode cX9_append 11 = .ok (.ifCond .lt 42, 3) := by decide +kernel
theorem dX9_append_14 : decode cX9_append 14 = .ok (.aload_n 0, 1) := by decide +kernel
theorem dX9_append_15 : decode cX9_append 15 = .ok (.getfield 19, 3) := by decide +kernel
theorem dX9_append_18 : decode cX9_append 18 = .ok (.sipush 1200, 3) := by decide +kernel
theorem dX9_append_21 : decode cX9_append 21 = .ok (.if_icmp .ge 32, 3) := by decide +kernel
theorem dX9_append_24 : decode cX9_append 24 = .ok (.aload_n 0, 1) := by decide +kernel
theorem dX9_append_25 : decode cX9_append 25 = .ok (.getfield 11, 3) := by decide +kernel
theorem dX9_append_28 : decode cX9_append 28 = .ok (.aload_n 0, 1) := by decide +kernel
theorem dX9_append_29 : decode cX9_append 29 = .ok (.getfield 19, 3) := by decide +kernel
theorem dX9_append_32 : decode cX9_append 32 = .ok (.iload_n 1, 1) := by decide +kernel
theorem dX9_append_33 : decode cX9_append 33 = .ok (.iload_n 2, 1) := by decide +kernel
theorem dX9_append_34 : decode cX9_append 34 = .ok (.iushr, 1) := by decide +kernel
theorem dX9_append_35 : decode cX9_append 35 = .ok (.i2b, 1) := by decide +kernel
theorem dX9_append_36 : decode cX9_append 36 = .ok (.bastore, 1) := by decide +kernel
theorem dX9_append_37 : decode cX9_append 37 = .ok (.aload_n 0, 1) := by decide +kernel
theorem dX9_append_38 : decode cX9_append 38 = .ok (.dup, 1) := by decide +kernel
theorem dX9_append_39 : decode cX9_append 39 = .ok (.getfield 19, 3) := by decide +kernel
theorem dX9_append_42 : decode cX9_append 42 = .ok (.iconst 1, 1) := by decide +kernel
theorem dX9_append_43 : decode cX9_append 43 = .ok (.iadd, 1) := by decide +kernel
theorem dX9_append_44 : decode cX9_append 44 = .ok (.putfield 19, 3) := by decide +kernel
theorem dX9_append_47 : decode cX9_append 47 = .ok (.iinc 2 (-8), 3) := by decide +kernel
theorem dX9_append_50 : decode cX9_append 50 = .ok (.goto (-47), 3) := by decide +kernel
theorem dX9_append_53 : decode cX9_append 53 = .ok (.return_, 1) := by decide +kernel
theorem dX9_rewind_0 : decode cX9_rewind 0 = .ok (.aload_n 0, 1) := by decide +kernel
theorem dX9_rewind_1 : decode cX9_rewind 1 = .ok (.iconst 0, 1) := by decide +kernel
theorem dX9_rewind_2 : decode cX9_rewind 2 = .ok (.putfield 22, 3) := by decide +kernel
theorem dX9_rewind_5 : decode cX9_rewind 5 = .ok (.aload_n 0, 1) := by decide +kernel
theorem dX9_rewind_6 : decode cX9_rewind 6 = .ok (.iconst 0, 1) := by decide +kernel
theorem dX9_rewind_7 : decode cX9_rewind 7 = .ok (.putfield 25, 3) := by decide +kernel
theorem dX9_rewind_10 : decode cX9_rewind 10 = .ok (.aload_n 0, 1) := by decide +kernel
theorem dX9_rewind_11 : decode cX9_rewind 11 = .ok (.iconst (-1), 1) := by decide +kernel
theorem dX9_rewind_12 : decode cX9_rewind 12 = .ok (.putfield 15, 3) := by decide +kernel
theorem dX9_rewind_15 : decode cX9_rewind 15 = .ok (.aload_n 0, 1) := by decide +kernel
theorem dX9_rewind_16 : decode cX9_rewind 16 = .ok (.invokevirtual 28, 3) := by decide +kernel
theorem dX9_rewind_19 : decode cX9_rewind 19 = .ok (.return_, 1) := by decide +kernel
theorem dX9_advance_0 : decode cX9_advance 0 = .ok (.aload_n 0, 1) := by decide +kernel
theorem dX9_advance_1 : decode cX9_advance 1 = .ok (.aload_n 0, 1) := by decide +kernel
theorem dX9_advance_2 : decode cX9_advance 2 = .ok (.getfield 22, 3) := by decide +kernel
theorem dX9_advance_5 : decode cX9_advance 5 = .ok (.invokevirtual 31, 3) := by decide +kernel
theorem dX9_advance_8 : decode cX9_advance 8 = .ok (.istore_n 1, 1) := by decide +kernel
theorem dX9_advance_9 : decode cX9_advance 9 = .ok (.aload_n 0, 1) := by decide +kernel
theorem dX9_advance_10 : decode cX9_advance 10 = .ok (.getfield 22, 3) := by decide +kernel
theorem dX9_advance_13 : decode cX9_advance 13 = .ok (.aload_n 0, 1) := by decide +kernel
theorem dX9_advance_14 : decode cX9_advance 14 = .ok (.getfield 19, 3) := by decide +kernel
theorem dX9_advance_17 : decode cX9_advance 17 = .ok (.if_icmp .ge 37, 3) := by decide +kernel
theorem dX9_advance_20 : decode cX9_advance 20 = .ok (.iload_n 1, 1) := by decide +kernel
theorem dX9_advance_21 : decode cX9_advance 21 = .ok (.bipush 32, 2) := by decide +kernel
theorem dX9_advance_23 : decode cX9_advance 23 = .ok (.if_icmp .eq 9, 3) := by decide +kernel
theorem dX9_advance_26 : decode cX9_advance 26 = .ok (.iload_n 1, 1) := by decide +kernel
theorem dX9_advance_27 : decode cX9_advance 27 = .ok (.bipush 10, 2) := by decide +kernel
theorem dX9_advance_29 : decode cX9_advance 29 = .ok (.if_icmp .ne 25, 3) := by decide +kernel
theorem dX9_advance_32 : decode cX9_advance 32 = .ok (.aload_n 0, 1) := by decide +kernel
theorem dX9_advance_33 : decode cX9_advance 33 = .ok (.dup, 1) := by decide +kernel
theorem dX9_advance_34 : decode cX9_advance 34 = .ok (.getfield 22, 3) := by decide +kernel
theorem dX9_advance_37 : decode cX9_advance 37 = .ok (.iconst 1, 1) := by decide +kernel
theorem dX9_advance_38 : decode cX9_advance 38 = .ok (.iadd, 1) := by decide +kernel
theorem dX9_advance_39 : decode cX9_advance 39 = .ok (.putfield 22, 3) := by decide +kernel
theorem dX9_advance_42 : decode cX9_advance 42 = .ok (.aload_n 0, 1) := by decide +kernel
theorem dX9_advance_43 : decode cX9_advance 43 = .ok (.aload_n 0, 1) := by decide +kernel
theorem dX9_advance_44 : decode cX9_advance 44 = .ok (.getfield 22, 3) := by decide +kernel
theorem dX9_advance_47 : decode cX9_advance 47 = .ok (.invokevirtual 31, 3) := by decide +kernel
theorem dX9_advance_50 : decode cX9_advance 50 = .ok (.istore_n 1, 1) := by decide +kernel
theorem dX9_advance_51 : decode cX9_advance 51 = .ok (.goto (-42), 3) := by decide +kernel
theorem dX9_advance_54 : decode cX9_advance 54 = .ok (.aload_n 0, 1) := by decide +kernel
theorem dX9_advance_55 : decode cX9_advance 55 = .ok (.aload_n 0, 1) := by decide +kernel
theorem dX9_advance_56 : decode cX9_advance 56 = .ok (.getfield 22, 3) := by decide +kernel
theorem dX9_advance_59 : decode cX9_advance 59 = .ok (.putfield 35, 3) := by decide +kernel
theorem dX9_advance_62 : decode cX9_advance 62 = .ok (.iload_n 1, 1) := by decide +kernel
theorem dX9_advance_63 : decode cX9_advance 63 = .ok (.iconst (-1), 1) := by decide +kernel
theorem dX9_advance_64 : decode cX9_advance 64 = .ok (.if_icmp .ne 11, 3) := by decide +kernel
theorem dX9_advance_67 : decode cX9_advance 67 = .ok (.aload_n 0, 1) := by decide +kernel
theorem dX9_advance_68 : decode cX9_advance 68 = .ok (.iconst 0, 1) := by decide +kernel
theorem dX9_advance_69 : decode cX9_advance 69 = .ok (.putfield 38, 3) := by decide +kernel
theorem dX9_advance_72 : decode cX9_advance 72 = .ok (.goto 74, 3) := by decide +kernel
theorem dX9_advance_75 : decode cX9_advance 75 = .ok (.iload_n 1, 1) := by decide +kernel
theorem dX9_advance_76 : decode cX9_advance 76 = .ok (.invokestatic 41, 3) := by decide +kernel
theorem dX9_advance_79 : decode cX9_advance 79 = .ok (.ifCond .eq 10, 3) := by decide +kernel
theorem dX9_advance_82 : decode cX9_advance 82 = .ok (.aload_n 0, 1) := by decide +kernel
theorem dX9_advance_83 : decode cX9_advance 83 = .ok (.invokevirtual 45, 3) := by decide +kernel
theorem dX9_advance_86 : decode cX9_advance 86 = .ok (.goto 60, 3) := by decide +kernel
theorem dX9_advance_89 : decode cX9_advance 89 = .ok (.iload_n 1, 1) := by decide +kernel
theorem dX9_advance_90 : decode cX9_advance 90 = .ok (.invokestatic 48, 3) := by decide +kernel
theorem dX9_advance_93 : decode cX9_advance 93 = .ok (.ifCond .eq 10, 3) := by decide +kernel
theorem dX9_advance_96 : decode cX9_advance 96 = .ok (.aload_n 0, 1) := by decide +kernel
theorem dX9_advance_97 : decode cX9_advance 97 = .ok (.invokevirtual 51, 3) := by decide +kernel
theorem dX9_advance_100 : decode cX9_advance 100 = .ok (.goto 46, 3) := by decide +kernel
theorem dX9_advance_103 : decode cX9_advance 103 = .ok (.aload_n 0, 1) := by decide +kernel
theorem dX9_advance_104 : decode cX9_advance 104 = .ok (.iload_n 1, 1) := by decide +kernel
theorem dX9_advance_105 : decode cX9_advance 105 = .ok (.bipush 58, 2) := by decide +kernel
theorem dX9_advance_107 : decode cX9_advance 107 = .ok (.if_icmp .eq 21, 3) := by decide +kernel
theorem dX9_advance_110 : decode cX9_advance 110 = .ok (.iload_n 1, 1) := by decide +kernel
theorem dX9_advance_111 : decode cX9_advance 111 = .ok (.bipush 59, 2) := by decide +kernel
theorem dX9_advance_113 : decode cX9_advance 113 = .ok (.if_icmp .eq 15, 3) := by decide +kernel
theorem dX9_advance_116 : decode cX9_advance 116 = .ok (.iload_n 1, 1) := by decide +kernel
theorem dX9_advance_117 : decode cX9_advance 117 = .ok (.bipush 61, 2) := by decide +kernel
theorem dX9_advance_119 : decode cX9_advance 119 = .ok (.if_icmp .eq 9, 3) := by decide +kernel
theorem dX9_advance_122 : decode cX9_advance 122 = .ok (.iload_n 1, 1) := by decide +kernel
theorem dX9_advance_123 : decode cX9_advance 123 = .ok (.bipush 45, 2) := by decide +kernel
theorem dX9_advance_125 : decode cX9_advance 125 = .ok (.if_icmp .ne 7, 3) := by decide +kernel
theorem dX9_advance_128 : decode cX9_advance 128 = .ok (.iload_n 1, 1) := by decide +kernel
theorem dX9_advance_129 : decode cX9_advance 129 = .ok (.goto 4, 3) := by decide +kernel
theorem dX9_advance_132 : decode cX9_advance 132 = .ok (.iconst 3, 1) := by decide +kernel
theorem dX9_advance_133 : decode cX9_advance 133 = .ok (.putfield 38, 3) := by decide +kernel
theorem dX9_advance_136 : decode cX9_advance 136 = .ok (.aload_n 0, 1) := by decide +kernel
theorem dX9_advance_137 : decode cX9_advance 137 = .ok (.dup, 1) := by decide +kernel
theorem dX9_advance_138 : decode cX9_advance 138 = .ok (.getfield 22, 3) := by decide +kernel
theorem dX9_advance_141 : decode cX9_advance 141 = .ok (.iconst 1, 1) := by decide +kernel
theorem dX9_advance_142 : decode cX9_advance 142 = .ok (.iadd, 1) := by decide +kernel
theorem dX9_advance_143 : decode cX9_advance 143 = .ok (.putfield 22, 3) := by decide +kernel
theorem dX9_advance_146 : decode cX9_advance 146 = .ok (.return_, 1) := by decide +kernel
theorem dX9_readWord_0 : decode cX9_readWord 0 = .ok (.aload_n 0, 1) := by decide +kernel
theorem dX9_readWord_1 : decode cX9_readWord 1 = .ok (.iconst 0, 1) := by decide +kernel
theorem dX9_readWord_2 : decode cX9_readWord 2 = .ok (.putfield 54, 3) := by decide +kernel
theorem dX9_readWord_5 : decode cX9_readWord 5 = .ok (.aload_n 0, 1) := by decide +kernel
theorem dX9_readWord_6 : decode cX9_readWord 6 = .ok (.aload_n 0, 1) := by decide +kernel
theorem dX9_readWord_7 : decode cX9_readWord 7 = .ok (.getfield 22, 3) := by decide +kernel
theorem dX9_readWord_10 : decode cX9_readWord 10 = .ok (.invokevirtual 31, 3) := by decide +kernel
theorem dX9_readWord_13 : decode cX9_readWord 13 = .ok (.istore_n 1, 1) := by decide +kernel
theorem dX9_readWord_14 : decode cX9_readWord 14 = .ok (.aload_n 0, 1) := by decide +kernel
theorem dX9_readWord_15 : decode cX9_readWord 15 = .ok (.getfield 22, 3) := by decide +kernel
theorem dX9_readWord_18 : decode cX9_readWord 18 = .ok (.aload_n 0, 1) := by decide +kernel
theorem dX9_readWord_19 : decode cX9_readWord 19 = .ok (.getfield 19, 3) := by decide +kernel
theorem dX9_readWord_22 : decode cX9_readWord 22 = .ok (.if_icmp .ge 44, 3) := by decide +kernel
theorem dX9_readWord_25 : decode cX9_readWord 25 = .ok (.iload_n 1, 1) := by decide +kernel
theorem dX9_readWord_26 : decode cX9_readWord 26 = .ok (.invokestatic 41, 3) := by decide +kernel
theorem dX9_readWord_29 : decode cX9_readWord 29 = .ok (.ifCond .eq 37, 3) := by decide +kernel
theorem dX9_readWord_32 : decode cX9_readWord 32 = .ok (.aload_n 0, 1) := by decide +kernel
theorem dX9_readWord_33 : decode cX9_readWord 33 = .ok (.aload_n 0, 1) := by decide +kernel
theorem dX9_readWord_34 : decode cX9_readWord 34 = .ok (.getfield 54, 3) := by decide +kernel
theorem dX9_readWord_37 : decode cX9_readWord 37 = .ok (.iload_n 1, 1) := by decide +kernel
theorem dX9_readWord_38 : decode cX9_readWord 38 = .ok (.invokestatic 57, 3) := by decide +kernel
theorem dX9_readWord_41 : decode cX9_readWord 41 = .ok (.putfield 54, 3) := by decide +kernel
theorem dX9_readWord_44 : decode cX9_readWord 44 = .ok (.aload_n 0, 1) := by decide +kernel
theorem dX9_readWord_45 : decode cX9_readWord 45 = .ok (.dup, 1) := by decide +kernel
theorem dX9_readWord_46 : decode cX9_readWord 46 = .ok (.getfield 22, 3) := by decide +kernel
theorem dX9_readWord_49 : decode cX9_readWord 49 = .ok (.iconst 1, 1) := by decide +kernel
theorem dX9_readWord_50 : decode cX9_readWord 50 = .ok (.iadd, 1) := by decide +kernel
theorem dX9_readWord_51 : decode cX9_readWord 51 = .ok (.putfield 22, 3) := by decide +kernel
theorem dX9_readWord_54 : decode cX9_readWord 54 = .ok (.aload_n 0, 1) := by decide +kernel
theorem dX9_readWord_55 : decode cX9_readWord 55 = .ok (.aload_n 0, 1) := by decide +kernel
theorem dX9_readWord_56 : decode cX9_readWord 56 = .ok (.getfield 22, 3) := by decide +kernel
theorem dX9_readWord_59 : decode cX9_readWord 59 = .ok (.invokevirtual 31, 3) := by decide +kernel
theorem dX9_readWord_62 : decode cX9_readWord 62 = .ok (.istore_n 1, 1) := by decide +kernel
theorem dX9_readWord_63 : decode cX9_readWord 63 = .ok (.goto (-49), 3) := by decide +kernel
theorem dX9_readWord_66 : decode cX9_readWord 66 = .ok (.aload_n 0, 1) := by decide +kernel
theorem dX9_readWord_67 : decode cX9_readWord 67 = .ok (.aload_n 0, 1) := by decide +kernel
theorem dX9_readWord_68 : decode cX9_readWord 68 = .ok (.getfield 22, 3) := by decide +kernel
theorem dX9_readWord_71 : decode cX9_readWord 71 = .ok (.aload_n 0, 1) := by decide +kernel
theorem dX9_readWord_72 : decode cX9_readWord 72 = .ok (.getfield 35, 3) := by decide +kernel
theorem dX9_readWord_75 : decode cX9_readWord 75 = .ok (.isub, 1) := by decide +kernel
theorem dX9_readWord_76 : decode cX9_readWord 76 = .ok (.bipush 6, 2) := by decide +kernel
theorem dX9_readWord_78 : decode cX9_readWord 78 = .ok (.if_icmp .le 7, 3) := by decide +kernel
theorem dX9_readWord_81 : decode cX9_readWord 81 = .ok (.iconst 3, 1) := by decide +kernel
theorem dX9_readWord_82 : decode cX9_readWord 82 = .ok (.goto 4, 3) := by decide +kernel
theorem dX9_readWord_85 : decode cX9_readWord 85 = .ok (.iconst 1, 1) := by decide +kernel
theorem dX9_readWord_86 : decode cX9_readWord 86 = .ok (.putfield 38, 3) := by decide +kernel
theorem dX9_readWord_89 : decode cX9_readWord 89 = .ok (.return_, 1) := by decide +kernel
theorem dX9_readNumber_0 : decode cX9_readNumber 0 = .ok (.aload_n 0, 1) := by decide +kernel
theorem dX9_readNumber_1 : decode cX9_readNumber 1 = .ok (.iconst 0, 1) := by decide +kernel
theorem dX9_readNumber_2 : decode cX9_readNumber 2 = .ok (.putfield 54, 3) := by decide +kernel
theorem dX9_readNumber_5 : decode cX9_readNumber 5 = .ok (.aload_n 0, 1) := by decide +kernel
theorem dX9_readNumber_6 : decode cX9_readNumber 6 = .ok (.aload_n 0, 1) := by decide +kernel
theorem dX9_readNumber_7 : decode cX9_readNumber 7 = .ok (.getfield 22, 3) := by decide +kernel
theorem dX9_readNumber_10 : decode cX9_readNumber 10 = .ok (.invokevirtual 31, 3) := by decide +kernel
theorem dX9_readNumber_13 : decode cX9_readNumber 13 = .ok (.istore_n 1, 1) := by decide +kernel
theorem dX9_readNumber_14 : decode cX9_readNumber 14 = .ok (.aload_n 0, 1) := by decide +kernel
theorem dX9_readNumber_15 : decode cX9_readNumber 15 = .ok (.getfield 22, 3) := by decide +kernel
theorem dX9_readNumber_18 : decode cX9_readNumber 18 = .ok (.aload_n 0, 1) := by decide +kernel
theorem dX9_readNumber_19 : decode cX9_readNumber 19 = .ok (.getfield 19, 3) := by decide +kernel
theorem dX9_readNumber_22 : decode cX9_readNumber 22 = .ok (.if_icmp .ge 48, 3) := by decide +kernel
theorem dX9_readNumber_25 : decode cX9_readNumber 25 = .ok (.iload_n 1, 1) := by decide +kernel
theorem dX9_readNumber_26 : decode cX9_readNumber 26 = .ok (.invokestatic 48, 3) := by decide +kernel
theorem dX9_readNumber_29 : decode cX9_readNumber 29 = .ok (.ifCond .eq 41, 3) := by decide +kernel
theorem dX9_readNumber_32 : decode cX9_readNumber 32 = .ok (.aload_n 0, 1) := by decide +kernel
theorem dX9_readNumber_33 : decode cX9_readNumber 33 = .ok (.aload_n 0, 1) := by decide +kernel
theorem dX9_readNumber_34 : decode cX9_readNumber 34 = .ok (.getfield 54, 3) := by decide +kernel
theorem dX9_readNumber_37 : decode cX9_readNumber 37 = .ok (.bipush 10, 2) := by decide +kernel
theorem dX9_readNumber_39 : decode cX9_readNumber 39 = .ok (.imul, 1) := by decide +kernel
theorem dX9_readNumber_40 : decode cX9_readNumber 40 = .ok (.iload_n 1, 1) := by decide +kernel
theorem dX9_readNumber_41 : decode cX9_readNumber 41 = .ok (.iadd, 1) := by decide +kernel
theorem dX9_readNumber_42 : decode cX9_readNumber 42 = .ok (.bipush 48, 2) := by decide +kernel
theorem dX9_readNumber_44 : decode cX9_readNumber 44 = .ok (.isub, 1) := by decide +kernel
theorem dX9_readNumber_45 : decode cX9_readNumber 45 = .ok (.putfield 54, 3) := by decide +kernel
theorem dX9_readNumber_48 : decode cX9_readNumber 48 = .ok (.aload_n 0, 1) := by decide +kernel
theorem dX9_readNumber_49 : decode cX9_readNumber 49 = .ok (.dup, 1) := by decide +kernel
theorem dX9_readNumber_50 : decode cX9_readNumber 50 = .ok (.getfield 22, 3) := by decide +kernel
theorem dX9_readNumber_53 : decode cX9_readNumber 53 = .ok (.iconst 1, 1) := by decide +kernel
theorem dX9_readNumber_54 : decode cX9_readNumber 54 = .ok (.iadd, 1) := by decide +kernel
theorem dX9_readNumber_55 : decode cX9_readNumber 55 = .ok (.putfield 22, 3) := by decide +kernel
theorem dX9_readNumber_58 : decode cX9_readNumber 58 = .ok (.aload_n 0, 1) := by decide +kernel
theorem dX9_readNumber_59 : decode cX9_readNumber 59 = .ok (.aload_n 0, 1) := by decide +kernel
theorem dX9_readNumber_60 : decode cX9_readNumber 60 = .ok (.getfield 22, 3) := by decide +kernel
theorem dX9_readNumber_63 : decode cX9_readNumber 63 = .ok (.invokevirtual 31, 3) := by decide +kernel
theorem dX9_readNumber_66 : decode cX9_readNumber 66 = .ok (.istore_n 1, 1) := by decide +kernel
theorem dX9_readNumber_67 : decode cX9_readNumber 67 = .ok (.goto (-53), 3) := by decide +kernel
theorem dX9_readNumber_70 : decode cX9_readNumber 70 = .ok (.aload_n 0, 1) := by decide +kernel
theorem dX9_readNumber_71 : decode cX9_readNumber 71 = .ok (.aload_n 0, 1) := by decide +kernel
theorem dX9_readNumber_72 : decode cX9_readNumber 72 = .ok (.getfield 22, 3) := by decide +kernel
theorem dX9_readNumber_75 : decode cX9_readNumber 75 = .ok (.aload_n 0, 1) := by decide +kernel
theorem dX9_readNumber_76 : decode cX9_readNumber 76 = .ok (.getfield 35, 3) := by decide +kernel
theorem dX9_readNumber_79 : decode cX9_readNumber 79 = .ok (.isub, 1) := by decide +kernel
theorem dX9_readNumber_80 : decode cX9_readNumber 80 = .ok (.bipush 9, 2) := by decide +kernel
theorem dX9_readNumber_82 : decode cX9_readNumber 82 = .ok (.if_icmp .le 7, 3) := by decide +kernel
theorem dX9_readNumber_85 : decode cX9_readNumber 85 = .ok (.iconst 3, 1) := by decide +kernel
theorem dX9_readNumber_86 : decode cX9_readNumber 86 = .ok (.goto 4, 3) := by decide +kernel
theorem dX9_readNumber_89 : decode cX9_readNumber 89 = .ok (.iconst 2, 1) := by decide +kernel
theorem dX9_readNumber_90 : decode cX9_readNumber 90 = .ok (.putfield 38, 3) := by decide +kernel
theorem dX9_readNumber_93 : decode cX9_readNumber 93 = .ok (.return_, 1) := by decide +kernel
theorem dX9_byteAt_0 : decode cX9_byteAt 0 = .ok (.iload_n 1, 1) := by decide +kernel
theorem dX9_byteAt_1 : decode cX9_byteAt 1 = .ok (.ifCond .lt 18, 3) := by decide +kernel
theorem dX9_byteAt_4 : decode cX9_byteAt 4 = .ok (.iload_n 1, 1) := by decide +kernel
theorem dX9_byteAt_5 : decode cX9_byteAt 5 = .ok (.aload_n 0, 1) := by decide +kernel
theorem dX9_byteAt_6 : decode cX9_byteAt 6 = .ok (.getfield 19, 3) := by decide +kernel
theorem dX9_byteAt_9 : decode cX9_byteAt 9 = .ok (.if_icmp .ge 10, 3) := by decide +kernel
theorem dX9_byteAt_12 : decode cX9_byteAt 12 = .ok (.iload_n 1, 1) := by decide +kernel
theorem dX9_byteAt_13 : decode cX9_byteAt 13 = .ok (.sipush 1200, 3) := by decide +kernel
theorem dX9_byteAt_16 : decode cX9_byteAt 16 = .ok (.if_icmp .lt 7, 3) := by decide +kernel
theorem dX9_byteAt_19 : decode cX9_byteAt 19 = .ok (.iconst (-1), 1) := by decide +kernel
theorem dX9_byteAt_20 : decode cX9_byteAt 20 = .ok (.goto 13, 3) := by decide +kernel
theorem dX9_byteAt_23 : decode cX9_byteAt 23 = .ok (.aload_n 0, 1) := by decide +kernel
theorem dX9_byteAt_24 : decode cX9_byteAt 24 = .ok (.getfield 11, 3) := by decide +kernel
theorem dX9_byteAt_27 : decode cX9_byteAt 27 = .ok (.iload_n 1, 1) := by decide +kernel
theorem dX9_byteAt_28 : decode cX9_byteAt 28 = .ok (.baload, 1) := by decide +kernel
theorem dX9_byteAt_29 : decode cX9_byteAt 29 = .ok (.sipush 255, 3) := by decide +kernel
theorem dX9_byteAt_32 : decode cX9_byteAt 32 = .ok (.iand, 1) := by decide +kernel
theorem dX9_byteAt_33 : decode cX9_byteAt 33 = .ok (.ireturn, 1) := by decide +kernel
theorem dX9_isLetter_0 : decode cX9_isLetter 0 = .ok (.iload_n 0, 1) := by decide +kernel
theorem dX9_isLetter_1 : decode cX9_isLetter 1 = .ok (.bipush 97, 2) := by decide +kernel
theorem dX9_isLetter_3 : decode cX9_isLetter 3 = .ok (.if_icmp .lt 13, 3) := by decide +kernel
theorem dX9_isLetter_6 : decode cX9_isLetter 6 = .ok (.iload_n 0, 1) := by decide +kernel
theorem dX9_isLetter_7 : decode cX9_isLetter 7 = .ok (.bipush 122, 2) := by decide +kernel
theorem dX9_isLetter_9 : decode cX9_isLetter 9 = .ok (.if_icmp .gt 7, 3) := by decide +kernel
theorem dX9_isLetter_12 : decode cX9_isLetter 12 = .ok (.iconst 1, 1) := by decide +kernel
theorem dX9_isLetter_13 : decode cX9_isLetter 13 = .ok (.goto 4, 3) := by decide +kernel
theorem dX9_isLetter_16 : decode cX9_isLetter 16 = .ok (.iconst 0, 1) := by decide +kernel
theorem dX9_isLetter_17 : decode cX9_isLetter 17 = .ok (.ireturn, 1) := by decide +kernel
theorem dX9_isDigit_0 : decode cX9_isDigit 0 = .ok (.iload_n 0, 1) := by decide +kernel
theorem dX9_isDigit_1 : decode cX9_isDigit 1 = .ok (.bipush 48, 2) := by decide +kernel
theorem dX9_isDigit_3 : decode cX9_isDigit 3 = .ok (.if_icmp .lt 13, 3) := by decide +kernel
theorem dX9_isDigit_6 : decode cX9_isDigit 6 = .ok (.iload_n 0, 1) := by decide +kernel
theorem dX9_isDigit_7 : decode cX9_isDigit 7 = .ok (.bipush 57, 2) := by decide +kernel
theorem dX9_isDigit_9 : decode cX9_isDigit 9 = .ok (.if_icmp .gt 7, 3) := by decide +kernel
theorem dX9_isDigit_12 : decode cX9_isDigit 12 = .ok (.iconst 1, 1) := by decide +kernel
theorem dX9_isDigit_13 : decode cX9_isDigit 13 = .ok (.goto 4, 3) := by decide +kernel
theorem dX9_isDigit_16 : decode cX9_isDigit 16 = .ok (.iconst 0, 1) := by decide +kernel
theorem dX9_isDigit_17 : decode cX9_isDigit 17 = .ok (.ireturn, 1) := by decide +kernel
theorem dX9_codeWith_0 : decode cX9_codeWith 0 = .ok (.iload_n 0, 1) := by decide +kernel
theorem dX9_codeWith_1 : decode cX9_codeWith 1 = .ok (.bipush 32, 2) := by decide +kernel
theorem dX9_codeWith_3 : decode cX9_codeWith 3 = .ok (.imul, 1) := by decide +kernel
theorem dX9_codeWith_4 : decode cX9_codeWith 4 = .ok (.iload_n 1, 1) := by decide +kernel
theorem dX9_codeWith_5 : decode cX9_codeWith 5 = .ok (.iadd, 1) := by decide +kernel
theorem dX9_codeWith_6 : decode cX9_codeWith 6 = .ok (.bipush 97, 2) := by decide +kernel
theorem dX9_codeWith_8 : decode cX9_codeWith 8 = .ok (.isub, 1) := by decide +kernel
theorem dX9_codeWith_9 : decode cX9_codeWith 9 = .ok (.iconst 1, 1) := by decide +kernel
theorem dX9_codeWith_10 : decode cX9_codeWith 10 = .ok (.iadd, 1) := by decide +kernel
theorem dX9_codeWith_11 : decode cX9_codeWith 11 = .ok (.ireturn, 1) := by decide +kernel
theorem dX9_isWord_0 : decode cX9_isWord 0 = .ok (.aload_n 0, 1) := by decide +kernel
theorem dX9_isWord_1 : decode cX9_isWord 1 = .ok (.getfield 38, 3) := by decide +kernel
theorem dX9_isWord_4 : decode cX9_isWord 4 = .ok (.iconst 1, 1) := by decide +kernel
theorem dX9_isWord_5 : decode cX9_isWord 5 = .ok (.if_icmp .eq 5, 3) := by decide +kernel
theorem dX9_isWord_8 : decode cX9_isWord 8 = .ok (.iconst 0, 1) := by decide +kernel
theorem dX9_isWord_9 : decode cX9_isWord 9 = .ok (.ireturn, 1) := by decide +kernel
theorem dX9_isWord_10 : decode cX9_isWord 10 = .ok (.iconst 0, 1) := by decide +kernel
theorem dX9_isWord_11 : decode cX9_isWord 11 = .ok (.istore_n 2, 1) := by decide +kernel
theorem dX9_isWord_12 : decode cX9_isWord 12 = .ok (.iconst 0, 1) := by decide +kernel
theorem dX9_isWord_13 : decode cX9_isWord 13 = .ok (.istore_n 3, 1) := by decide +kernel
theorem dX9_isWord_14 : decode cX9_isWord 14 = .ok (.iload_n 3, 1) := by decide +kernel
theorem dX9_isWord_15 : decode cX9_isWord 15 = .ok (.aload_n 1, 1) := by decide +kernel
theorem dX9_isWord_16 : decode cX9_isWord 16 = .ok (.invokevirtual 61, 3) := by decide +kernel
theorem dX9_isWord_19 : decode cX9_isWord 19 = .ok (.if_icmp .ge 19, 3) := by decide +kernel
theorem dX9_isWord_22 : decode cX9_isWord 22 = .ok (.iload_n 2, 1) := by decide +kernel
theorem dX9_isWord_23 : decode cX9_isWord 23 = .ok (.aload_n 1, 1) := by decide +kernel
theorem dX9_isWord_24 : decode cX9_isWord 24 = .ok (.iload_n 3, 1) := by decide +kernel
theorem dX9_isWord_25 : decode cX9_isWord 25 = .ok (.invokevirtual 66, 3) := by decide +kernel
theorem dX9_isWord_28 : decode cX9_isWord 28 = .ok (.invokestatic 57, 3) := by decide +kernel
theorem dX9_isWord_31 : decode cX9_isWord 31 = .ok (.istore_n 2, 1) := by decide +kernel
theorem dX9_isWord_32 : decode cX9_isWord 32 = .ok (.iinc 3 1, 3) := by decide +kernel
theorem dX9_isWord_35 : decode cX9_isWord 35 = .ok (.goto (-21), 3) := by decide +kernel
theorem dX9_isWord_38 : decode cX9_isWord 38 = .ok (.iload_n 2, 1) := by decide +kernel
theorem dX9_isWord_39 : decode cX9_isWord 39 = .ok (.aload_n 0, 1) := by decide +kernel
theorem dX9_isWord_40 : decode cX9_isWord 40 = .ok (.getfield 54, 3) := by decide +kernel
theorem dX9_isWord_43 : decode cX9_isWord 43 = .ok (.if_icmp .ne 7, 3) := by decide +kernel
theorem dX9_isWord_46 : decode cX9_isWord 46 = .ok (.iconst 1, 1) := by decide +kernel
theorem dX9_isWord_47 : decode cX9_isWord 47 = .ok (.goto 4, 3) := by decide +kernel
theorem dX9_isWord_50 : decode cX9_isWord 50 = .ok (.iconst 0, 1) := by decide +kernel
theorem dX9_isWord_51 : decode cX9_isWord 51 = .ok (.ireturn, 1) := by decide +kernel
theorem dX9_pass_0 : decode cX9_pass 0 = .ok (.aload_n 0, 1) := by decide +kernel
theorem dX9_pass_1 : decode cX9_pass 1 = .ok (.getfield 38, 3) := by decide +kernel
theorem dX9_pass_4 : decode cX9_pass 4 = .ok (.iload_n 1, 1) := by decide +kernel
theorem dX9_pass_5 : decode cX9_pass 5 = .ok (.if_icmp .eq 13, 3) := by decide +kernel
theorem dX9_pass_8 : decode cX9_pass 8 = .ok (.aload_n 0, 1) := by decide +kernel
theorem dX9_pass_9 : decode cX9_pass 9 = .ok (.iconst 1, 1) := by decide +kernel
theorem dX9_pass_10 : decode cX9_pass 10 = .ok (.aload_n 0, 1) := by decide +kernel
theorem dX9_pass_11 : decode cX9_pass 11 = .ok (.getfield 35, 3) := by decide +kernel
theorem dX9_pass_14 : decode cX9_pass 14 = .ok (.invokevirtual 70, 3) := by decide +kernel
theorem dX9_pass_17 : decode cX9_pass 17 = .ok (.ireturn, 1) := by decide +kernel
theorem dX9_pass_18 : decode cX9_pass 18 = .ok (.aload_n 0, 1) := by decide +kernel
theorem dX9_pass_19 : decode cX9_pass 19 = .ok (.invokevirtual 28, 3) := by decide +kernel
theorem dX9_pass_22 : decode cX9_pass 22 = .ok (.iconst 1, 1) := by decide +kernel
theorem dX9_pass_23 : decode cX9_pass 23 = .ok (.ireturn, 1) := by decide +kernel
theorem dX9_fail_0 : decode cX9_fail 0 = .ok (.aload_n 0, 1) := by decide +kernel
theorem dX9_fail_1 : decode cX9_fail 1 = .ok (.iload_n 1, 1) := by decide +kernel
theorem dX9_fail_2 : decode cX9_fail 2 = .ok (.putfield 25, 3) := by decide +kernel
theorem dX9_fail_5 : decode cX9_fail 5 = .ok (.aload_n 0, 1) := by decide +kernel
theorem dX9_fail_6 : decode cX9_fail 6 = .ok (.iload_n 2, 1) := by decide +kernel
theorem dX9_fail_7 : decode cX9_fail 7 = .ok (.putfield 15, 3) := by decide +kernel
theorem dX9_fail_10 : decode cX9_fail 10 = .ok (.iconst 0, 1) := by decide +kernel
theorem dX9_fail_11 : decode cX9_fail 11 = .ok (.ireturn, 1) := by decide +kernel
theorem dX10_init_0 : decode cX10_init 0 = .ok (.aload_n 0, 1) := by decide +kernel
theorem dX10_init_1 : decode cX10_init 1 = .ok (.invokespecial 3, 3) := by decide +kernel
theorem dX10_init_4 : decode cX10_init 4 = .ok (.aload_n 0, 1) := by decide +kernel
theorem dX10_init_5 : decode cX10_init 5 = .ok (.new 9, 3) := by decide +kernel
theorem dX10_init_8 : decode cX10_init 8 = .ok (.dup, 1) := by decide +kernel
theorem dX10_init_9 : decode cX10_init 9 = .ok (.invokespecial 11, 3) := by decide +kernel
theorem dX10_init_12 : decode cX10_init 12 = .ok (.putfield 12, 3) := by decide +kernel
theorem dX10_init_15 : decode cX10_init 15 = .ok (.aload_n 0, 1) := by decide +kernel
theorem dX10_init_16 : decode cX10_init 16 = .ok (.new 16, 3) := by decide +kernel
theorem dX10_init_19 : decode cX10_init 19 = .ok (.dup, 1) := by decide +kernel
theorem dX10_init_20 : decode cX10_init 20 = .ok (.invokespecial 18, 3) := by decide +kernel
theorem dX10_init_23 : decode cX10_init 23 = .ok (.putfield 19, 3) := by decide +kernel
theorem dX10_init_26 : decode cX10_init 26 = .ok (.aload_n 0, 1) := by decide +kernel
theorem dX10_init_27 : decode cX10_init 27 = .ok (.new 23, 3) := by decide +kernel
theorem dX10_init_30 : decode cX10_init 30 = .ok (.dup, 1) := by decide +kernel
theorem dX10_init_31 : decode cX10_init 31 = .ok (.aload_n 0, 1) := by decide +kernel
theorem dX10_init_32 : decode cX10_init 32 = .ok (.getfield 12, 3) := by decide +kernel
theorem dX10_init_35 : decode cX10_init 35 = .ok (.invokespecial 25, 3) := by decide +kernel
theorem dX10_init_38 : decode cX10_init 38 = .ok (.putfield 28, 3) := by decide +kernel
theorem dX10_init_41 : decode cX10_init 41 = .ok (.aload_n 0, 1) := by decide +kernel
theorem dX10_init_42 : decode cX10_init 42 = .ok (.new 32, 3) := by decide +kernel
theorem dX10_init_45 : decode cX10_init 45 = .ok (.dup, 1) := by decide +kernel
theorem dX10_init_46 : decode cX10_init 46 = .ok (.invokespecial 34, 3) := by decide +kernel
theorem dX10_init_49 : decode cX10_init 49 = .ok (.putfield 35, 3) := by decide +kernel
theorem dX10_init_52 : decode cX10_init 52 = .ok (.aload_n 0, 1) := by decide +kernel
theorem dX10_init_53 : decode cX10_init 53 = .ok (.new 39, 3) := by decide +kernel
theorem dX10_init_56 : decode cX10_init 56 = .ok (.dup, 1) := by decide +kernel
theorem dX10_init_57 : decode cX10_init 57 = .ok (.aload_n 0, 1) := by decide +kernel
theorem dX10_init_58 : decode cX10_init 58 = .ok (.getfield 12, 3) := by decide +kernel
theorem dX10_init_61 : decode cX10_init 61 = .ok (.invokespecial 41, 3) := by decide +kernel
theorem dX10_init_64 : decode cX10_init 64 = .ok (.putfield 42, 3) := by decide +kernel
theorem dX10_init_67 : decode cX10_init 67 = .ok (.aload_n 0, 1) := by decide +kernel
theorem dX10_init_68 : decode cX10_init 68 = .ok (.new 46, 3) := by decide +kernel
theorem dX10_init_71 : decode cX10_init 71 = .ok (.dup, 1) := by decide +kernel
theorem dX10_init_72 : decode cX10_init 72 = .ok (.aload_n 0, 1) := by decide +kernel
theorem dX10_init_73 : decode cX10_init 73 = .ok (.getfield 19, 3) := by decide +kernel
theorem dX10_init_76 : decode cX10_init 76 = .ok (.invokespecial 48, 3) := by decide +kernel
theorem dX10_init_79 : decode cX10_init 79 = .ok (.putfield 51, 3) := by decide +kernel
theorem dX10_init_82 : decode cX10_init 82 = .ok (.aload_n 0, 1) := by decide +kernel
theorem dX10_init_83 : decode cX10_init 83 = .ok (.new 55, 3) := by decide +kernel
theorem dX10_init_86 : decode cX10_init 86 = .ok (.dup, 1) := by decide +kernel
theorem dX10_init_87 : decode cX10_init 87 = .ok (.invokespecial 57, 3) := by decide +kernel
theorem dX10_init_90 : decode cX10_init 90 = .ok (.putfield 58, 3) := by decide +kernel
theorem dX10_init_93 : decode cX10_init 93 = .ok (.aload_n 0, 1) := by decide +kernel
theorem dX10_init_94 : decode cX10_init 94 = .ok (.new 62, 3) := by decide +kernel
theorem dX10_init_97 : decode cX10_init 97 = .ok (.dup, 1) := by decide +kernel
theorem dX10_init_98 : decode cX10_init 98 = .ok (.invokespecial 64, 3) := by decide +kernel
theorem dX10_init_101 : decode cX10_init 101 = .ok (.putfield 65, 3) := by decide +kernel
theorem dX10_init_104 : decode cX10_init 104 = .ok (.aload_n 0, 1) := by decide +kernel
theorem dX10_init_105 : decode cX10_init 105 = .ok (.new 69, 3) := by decide +kernel
theorem dX10_init_108 : decode cX10_init 108 = .ok (.dup, 1) := by decide +kernel
theorem dX10_init_109 : decode cX10_init 109 = .ok (.aload_n 0, 1) := by decide +kernel
theorem dX10_init_110 : decode cX10_init 110 = .ok (.getfield 19, 3) := by decide +kernel
theorem dX10_init_113 : decode cX10_init 113 = .ok (.aload_n 0, 1) := by decide +kernel
theorem dX10_init_114 : decode cX10_init 114 = .ok (.getfield 51, 3) := by decide +kernel
theorem dX10_init_117 : decode cX10_init 117 = .ok (.aload_n 0, 1) := by decide +kernel
theorem dX10_init_118 : decode cX10_init 118 = .ok (.getfield 58, 3) := by decide +kernel
theorem dX10_init_121 : decode cX10_init 121 = .ok (.invokespecial 71, 3) := by decide +kernel
theorem dX10_init_124 : decode cX10_init 124 = .ok (.putfield 74, 3) := by decide +kernel
theorem dX10_init_127 : decode cX10_init 127 = .ok (.aload_n 0, 1) := by decide +kernel
theorem dX10_init_128 : decode cX10_init 128 = .ok (.new 78, 3) := by decide +kernel
theorem dX10_init_131 : decode cX10_init 131 = .ok (.dup, 1) := by decide +kernel
theorem dX10_init_132 : decode cX10_init 132 = .ok (.invokespecial 80, 3) := by decide +kernel
theorem dX10_init_135 : decode cX10_init 135 = .ok (.putfield 81, 3) := by decide +kernel
theorem dX10_init_138 : decode cX10_init 138 = .ok (.return_, 1) := by decide +kernel
theorem dX10_feed_0 : decode cX10_feed 0 = .ok (.aload_n 0, 1) := by decide +kernel
theorem dX10_feed_1 : decode cX10_feed 1 = .ok (.getfield 12, 3) := by decide +kernel
theorem dX10_feed_4 : decode cX10_feed 4 = .ok (.bipush 20, 2) := by decide +kernel
theorem dX10_feed_6 : decode cX10_feed 6 = .ok (.invokevirtual 85, 3) := by decide +kernel
theorem dX10_feed_9 : decode cX10_feed 9 = .ok (.ifCond .ne 6, 3) := by decide +kernel
theorem dX10_feed_12 : decode cX10_feed 12 = .ok (.bipush (-3), 2) := by decide +kernel
theorem dX10_feed_14 : decode cX10_feed 14 = .ok (.ireturn, 1) := by decide +kernel
theorem dX10_feed_15 : decode cX10_feed 15 = .ok (.aload_n 0, 1) := by decide +kernel
theorem dX10_feed_16 : decode cX10_feed 16 = .ok (.getfield 12, 3) := by decide +kernel
theorem dX10_feed_19 : decode cX10_feed 19 = .ok (.iload_n 1, 1) := by decide +kernel
theorem dX10_feed_20 : decode cX10_feed 20 = .ok (.invokevirtual 89, 3) := by decide +kernel
theorem dX10_feed_23 : decode cX10_feed 23 = .ok (.aload_n 0, 1) := by decide +kernel
theorem dX10_feed_24 : decode cX10_feed 24 = .ok (.getfield 12, 3) := by decide +kernel
theorem dX10_feed_27 : decode cX10_feed 27 = .ok (.iload_n 2, 1) := by decide +kernel
theorem dX10_feed_28 : decode cX10_feed 28 = .ok (.invokevirtual 89, 3) := by decide +kernel
theorem dX10_feed_31 : decode cX10_feed 31 = .ok (.aload_n 0, 1) := by decide +kernel
theorem dX10_feed_32 : decode cX10_feed 32 = .ok (.getfield 12, 3) := by decide +kernel
theorem dX10_feed_35 : decode cX10_feed 35 = .ok (.iload_n 3, 1) := by decide +kernel
theorem dX10_feed_36 : decode cX10_feed 36 = .ok (.invokevirtual 89, 3) := by decide +kernel
theorem dX10_feed_39 : decode cX10_feed 39 = .ok (.aload_n 0, 1) := by decide +kernel
theorem dX10_feed_40 : decode cX10_feed 40 = .ok (.getfield 12, 3) := by decide +kernel
theorem dX10_feed_43 : decode cX10_feed 43 = .ok (.iload 4, 2) := by decide +kernel
theorem dX10_feed_45 : decode cX10_feed 45 = .ok (.invokevirtual 89, 3) := by decide +kernel
theorem dX10_feed_48 : decode cX10_feed 48 = .ok (.aload_n 0, 1) := by decide +kernel
theorem dX10_feed_49 : decode cX10_feed 49 = .ok (.getfield 12, 3) := by decide +kernel
theorem dX10_feed_52 : decode cX10_feed 52 = .ok (.iload 5, 2) := by decide +kernel
theorem dX10_feed_54 : decode cX10_feed 54 = .ok (.invokevirtual 89, 3) := by decide +kernel
theorem dX10_feed_57 : decode cX10_feed 57 = .ok (.aload_n 0, 1) := by decide +kernel
theorem dX10_feed_58 : decode cX10_feed 58 = .ok (.getfield 12, 3) := by decide +kernel
theorem dX10_feed_61 : decode cX10_feed 61 = .ok (.getfield 93, 3) := by decide +kernel
theorem dX10_feed_64 : decode cX10_feed 64 = .ok (.ireturn, 1) := by decide +kernel
theorem dX10_end_0 : decode cX10_end 0 = .ok (.iload_n 1, 1) := by decide +kernel
theorem dX10_end_1 : decode cX10_end 1 = .ok (.ifCond .lt 14, 3) := by decide +kernel
theorem dX10_end_4 : decode cX10_end 4 = .ok (.iload_n 1, 1) := by decide +kernel
theorem dX10_end_5 : decode cX10_end 5 = .ok (.aload_n 0, 1) := by decide +kernel
theorem dX10_end_6 : decode cX10_end 6 = .ok (.getfield 12, 3) := by decide +kernel
theorem dX10_end_9 : decode cX10_end 9 = .ok (.getfield 93, 3) := by decide +kernel
theorem dX10_end_12 : decode cX10_end 12 = .ok (.if_icmp .le 5, 3) := by decide +kernel
theorem dX10_end_15 : decode cX10_end 15 = .ok (.iconst (-1), 1) := by decide +kernel
theorem dX10_end_16 : decode cX10_end 16 = .ok (.ireturn, 1) := by decide +kernel
theorem dX10_end_17 : decode cX10_end 17 = .ok (.aload_n 0, 1) := by decide +kernel
theorem dX10_end_18 : decode cX10_end 18 = .ok (.getfield 12, 3) := by decide +kernel
theorem dX10_end_21 : decode cX10_end 21 = .ok (.iload_n 1, 1) := by decide +kernel
theorem dX10_end_22 : decode cX10_end 22 = .ok (.putfield 93, 3) := by decide +kernel
theorem dX10_end_25 : decode cX10_end 25 = .ok (.iload_n 1, 1) := by decide +kernel
theorem dX10_end_26 : decode cX10_end 26 = .ok (.ireturn, 1) := by decide +kernel
theorem dX10_drum_0 : decode cX10_drum 0 = .ok (.aload_n 0, 1) := by decide +kernel
theorem dX10_drum_1 : decode cX10_drum 1 = .ok (.getfield 28, 3) := by decide +kernel
theorem dX10_drum_4 : decode cX10_drum 4 = .ok (.invokevirtual 97, 3) := by decide +kernel
theorem dX10_drum_7 : decode cX10_drum 7 = .ok (.istore_n 1, 1) := by decide +kernel
theorem dX10_drum_8 : decode cX10_drum 8 = .ok (.aload_n 0, 1) := by decide +kernel
theorem dX10_drum_9 : decode cX10_drum 9 = .ok (.getfield 12, 3) := by decide +kernel
theorem dX10_drum_12 : decode cX10_drum 12 = .ok (.iconst 0, 1) := by decide +kernel
theorem dX10_drum_13 : decode cX10_drum 13 = .ok (.putfield 93, 3) := by decide +kernel
theorem dX10_drum_16 : decode cX10_drum 16 = .ok (.iload_n 1, 1) := by decide +kernel
theorem dX10_drum_17 : decode cX10_drum 17 = .ok (.ifCond .ne 5, 3) := by decide +kernel
theorem dX10_drum_20 : decode cX10_drum 20 = .ok (.iconst (-1), 1) := by decide +kernel
theorem dX10_drum_21 : decode cX10_drum 21 = .ok (.ireturn, 1) := by decide +kernel
theorem dX10_drum_22 : decode cX10_drum 22 = .ok (.aload_n 0, 1) := by decide +kernel
theorem dX10_drum_23 : decode cX10_drum 23 = .ok (.getfield 19, 3) := by decide +kernel
theorem dX10_drum_26 : decode cX10_drum 26 = .ok (.aload_n 0, 1) := by decide +kernel
theorem dX10_drum_27 : decode cX10_drum 27 = .ok (.getfield 28, 3) := by decide +kernel
theorem dX10_drum_30 : decode cX10_drum 30 = .ok (.getfield 101, 3) := by decide +kernel
theorem dX10_drum_33 : decode cX10_drum 33 = .ok (.invokevirtual 104, 3) := by decide +kernel
theorem dX10_drum_36 : decode cX10_drum 36 = .ok (.aload_n 0, 1) := by decide +kernel
theorem dX10_drum_37 : decode cX10_drum 37 = .ok (.getfield 19, 3) := by decide +kernel
theorem dX10_drum_40 : decode cX10_drum 40 = .ok (.invokevirtual 107, 3) := by decide +kernel
theorem dX10_drum_43 : decode cX10_drum 43 = .ok (.aload_n 0, 1) := by decide +kernel
theorem dX10_drum_44 : decode cX10_drum 44 = .ok (.getfield 35, 3) := by decide +kernel
theorem dX10_drum_47 : decode cX10_drum 47 = .ok (.getfield 111, 3) := by decide +kernel
theorem dX10_drum_50 : decode cX10_drum 50 = .ok (.if_icmp .ge 10, 3) := by decide +kernel
theorem dX10_drum_53 : decode cX10_drum 53 = .ok (.aload_n 0, 1) := by decide +kernel
theorem dX10_drum_54 : decode cX10_drum 54 = .ok (.getfield 35, 3) := by decide +kernel
theorem dX10_drum_57 : decode cX10_drum 57 = .ok (.invokevirtual 114, 3) := by decide +kernel
theorem dX10_drum_60 : decode cX10_drum 60 = .ok (.aload_n 0, 1) := by decide +kernel
theorem dX10_drum_61 : decode cX10_drum 61 = .ok (.invokevirtual 117, 3) := by decide +kernel
theorem dX10_drum_64 : decode cX10_drum 64 = .ok (.aload_n 0, 1) := by decide +kernel
theorem dX10_drum_65 : decode cX10_drum 65 = .ok (.getfield 19, 3) := by decide +kernel
theorem dX10_drum_68 : decode cX10_drum 68 = .ok (.invokevirtual 107, 3) := by decide +kernel
theorem dX10_drum_71 : decode cX10_drum 71 = .ok (.ireturn, 1) := by decide +kernel
theorem dX10_program_0 : decode cX10_program 0 = .ok (.aload_n 0, 1) := by decide +kernel
theorem dX10_program_1 : decode cX10_program 1 = .ok (.getfield 42, 3) := by decide +kernel
theorem dX10_program_4 : decode cX10_program 4 = .ok (.invokevirtual 120, 3) := by decide +kernel
theorem dX10_program_7 : decode cX10_program 7 = .ok (.istore_n 1, 1) := by decide +kernel
theorem dX10_program_8 : decode cX10_program 8 = .ok (.aload_n 0, 1) := by decide +kernel
theorem dX10_program_9 : decode cX10_program 9 = .ok (.getfield 12, 3) := by decide +kernel
theorem dX10_program_12 : decode cX10_program 12 = .ok (.iconst 0, 1) := by decide +kernel
theorem dX10_program_13 : decode cX10_program 13 = .ok (.putfield 93, 3) := by decide +kernel
theorem dX10_program_16 : decode cX10_program 16 = .ok (.iload_n 1, 1) := by decide +kernel
theorem dX10_program_17 : decode cX10_program 17 = .ok (.ifCond .ne 5, 3) := by decide +kernel
theorem dX10_program_20 : decode cX10_program 20 = .ok (.iconst (-1), 1) := by decide +kernel
theorem dX10_program_21 : decode cX10_program 21 = .ok (.ireturn, 1) := by decide +kernel
theorem dX10_program_22 : decode cX10_program 22 = .ok (.aload_n 0, 1) := by decide +kernel
theorem dX10_program_23 : decode cX10_program 23 = .ok (.getfield 42, 3) := by decide +kernel
theorem dX10_program_26 : decode cX10_program 26 = .ok (.getfield 121, 3) := by decide +kernel
theorem dX10_program_29 : decode cX10_program 29 = .ok (.getfield 111, 3) := by decide +kernel
theorem dX10_program_32 : decode cX10_program 32 = .ok (.aload_n 0, 1) := by decide +kernel
theorem dX10_program_33 : decode cX10_program 33 = .ok (.getfield 19, 3) := by decide +kernel
theorem dX10_program_36 : decode cX10_program 36 = .ok (.invokevirtual 107, 3) := by decide +kernel
theorem dX10_program_39 : decode cX10_program 39 = .ok (.if_icmp .le 6, 3) := by decide +kernel
theorem dX10_program_42 : decode cX10_program 42 = .ok (.bipush (-3), 2) := by decide +kernel
theorem dX10_program_44 : decode cX10_program 44 = .ok (.ireturn, 1) := by decide +kernel
theorem dX10_program_45 : decode cX10_program 45 = .ok (.aload_n 0, 1) := by decide +kernel
theorem dX10_program_46 : decode cX10_program 46 = .ok (.getfield 35, 3) := by decide +kernel
theorem dX10_program_49 : decode cX10_program 49 = .ok (.aload_n 0, 1) := by decide +kernel
theorem dX10_program_50 : decode cX10_program 50 = .ok (.getfield 42, 3) := by decide +kernel
theorem dX10_program_53 : decode cX10_program 53 = .ok (.getfield 121, 3) := by decide +kernel
theorem dX10_program_56 : decode cX10_program 56 = .ok (.invokevirtual 123, 3) := by decide +kernel
theorem dX10_program_59 : decode cX10_program 59 = .ok (.aload_n 0, 1) := by decide +kernel
theorem dX10_program_60 : decode cX10_program 60 = .ok (.invokevirtual 117, 3) := by decide +kernel
theorem dX10_program_63 : decode cX10_program 63 = .ok (.aload_n 0, 1) := by decide +kernel
theorem dX10_program_64 : decode cX10_program 64 = .ok (.getfield 35, 3) := by decide +kernel
theorem dX10_program_67 : decode cX10_program 67 = .ok (.getfield 111, 3) := by decide +kernel
theorem dX10_program_70 : decode cX10_program 70 = .ok (.ireturn, 1) := by decide +kernel
theorem dX10_fault_0 : decode cX10_fault 0 = .ok (.iload_n 1, 1) := by decide +kernel
theorem dX10_fault_1 : decode cX10_fault 1 = .ok (.ifCond .ne 11, 3) := by decide +kernel
theorem dX10_fault_4 : decode cX10_fault 4 = .ok (.aload_n 0, 1) := by decide +kernel
theorem dX10_fault_5 : decode cX10_fault 5 = .ok (.getfield 12, 3) := by decide +kernel
theorem dX10_fault_8 : decode cX10_fault 8 = .ok (.getfield 126, 3) := by decide +kernel
theorem dX10_fault_11 : decode cX10_fault 11 = .ok (.ireturn, 1) := by decide +kernel
theorem dX10_fault_12 : decode cX10_fault 12 = .ok (.iload_n 1, 1) := by decide +kernel
theorem dX10_fault_13 : decode cX10_fault 13 = .ok (.iconst 1, 1) := by decide +kernel
theorem dX10_fault_14 : decode cX10_fault 14 = .ok (.if_icmp .ne 13, 3) := by decide +kernel
theorem dX10_fault_17 : decode cX10_fault 17 = .ok (.aload_n 0, 1) := by decide +kernel
theorem dX10_fault_18 : decode cX10_fault 18 = .ok (.getfield 12, 3) := by decide +kernel
theorem dX10_fault_21 : decode cX10_fault 21 = .ok (.getfield 129, 3) := by decide +kernel
theorem dX10_fault_24 : decode cX10_fault 24 = .ok (.goto 4, 3) := by decide +kernel
theorem dX10_fault_27 : decode cX10_fault 27 = .ok (.iconst (-1), 1) := by decide +kernel
theorem dX10_fault_28 : decode cX10_fault 28 = .ok (.ireturn, 1) := by decide +kernel
theorem dX10_told_0 : decode cX10_told 0 = .ok (.iload_n 1, 1) := by decide +kernel
theorem dX10_told_1 : decode cX10_told 1 = .ok (.tableswitch 99 0 6 #[43, 51, 59, 67, 75, 83, 91], 43) := by decide +kernel
theorem dX10_told_44 : decode cX10_told 44 = .ok (.aload_n 0, 1) := by decide +kernel
theorem dX10_told_45 : decode cX10_told 45 = .ok (.getfield 19, 3) := by decide +kernel
theorem dX10_told_48 : decode cX10_told 48 = .ok (.getfield 132, 3) := by decide +kernel
theorem dX10_told_51 : decode cX10_told 51 = .ok (.ireturn, 1) := by decide +kernel
theorem dX10_told_52 : decode cX10_told 52 = .ok (.aload_n 0, 1) := by decide +kernel
theorem dX10_told_53 : decode cX10_told 53 = .ok (.getfield 19, 3) := by decide +kernel
theorem dX10_told_56 : decode cX10_told 56 = .ok (.getfield 134, 3) := by decide +kernel
theorem dX10_told_59 : decode cX10_told 59 = .ok (.ireturn, 1) := by decide +kernel
theorem dX10_told_60 : decode cX10_told 60 = .ok (.aload_n 0, 1) := by decide +kernel
theorem dX10_told_61 : decode cX10_told 61 = .ok (.getfield 19, 3) := by decide +kernel
theorem dX10_told_64 : decode cX10_told 64 = .ok (.invokevirtual 107, 3) := by decide +kernel
theorem dX10_told_67 : decode cX10_told 67 = .ok (.ireturn, 1) := by decide +kernel
theorem dX10_told_68 : decode cX10_told 68 = .ok (.aload_n 0, 1) := by decide +kernel
theorem dX10_told_69 : decode cX10_told 69 = .ok (.getfield 35, 3) := by decide +kernel
theorem dX10_told_72 : decode cX10_told 72 = .ok (.getfield 111, 3) := by decide +kernel
theorem dX10_told_75 : decode cX10_told 75 = .ok (.ireturn, 1) := by decide +kernel
theorem dX10_told_76 : decode cX10_told 76 = .ok (.aload_n 0, 1) := by decide +kernel
theorem dX10_told_77 : decode cX10_told 77 = .ok (.getfield 35, 3) := by decide +kernel
theorem dX10_told_80 : decode cX10_told 80 = .ok (.getfield 137, 3) := by decide +kernel
theorem dX10_told_83 : decode cX10_told 83 = .ok (.ireturn, 1) := by decide +kernel
theorem dX10_told_84 : decode cX10_told 84 = .ok (.aload_n 0, 1) := by decide +kernel
theorem dX10_told_85 : decode cX10_told 85 = .ok (.getfield 81, 3) := by decide +kernel
theorem dX10_told_88 : decode cX10_told 88 = .ok (.getfield 140, 3) := by decide +kernel
theorem dX10_told_91 : decode cX10_told 91 = .ok (.ireturn, 1) := by decide +kernel
theorem dX10_told_92 : decode cX10_told 92 = .ok (.aload_n 0, 1) := by decide +kernel
theorem dX10_told_93 : decode cX10_told 93 = .ok (.getfield 12, 3) := by decide +kernel
theorem dX10_told_96 : decode cX10_told 96 = .ok (.getfield 93, 3) := by decide +kernel
theorem dX10_told_99 : decode cX10_told 99 = .ok (.ireturn, 1) := by decide +kernel
theorem dX10_told_100 : decode cX10_told 100 = .ok (.iload_n 1, 1) := by decide +kernel
theorem dX10_told_101 : decode cX10_told 101 = .ok (.bipush 10, 2) := by decide +kernel
theorem dX10_told_103 : decode cX10_told 103 = .ok (.if_icmp .lt 17, 3) := by decide +kernel
theorem dX10_told_106 : decode cX10_told 106 = .ok (.iload_n 1, 1) := by decide +kernel
theorem dX10_told_107 : decode cX10_told 107 = .ok (.bipush 10, 2) := by decide +kernel
theorem dX10_told_109 : decode cX10_told 109 = .ok (.aload_n 0, 1) := by decide +kernel
theorem dX10_told_110 : decode cX10_told 110 = .ok (.getfield 19, 3) := by decide +kernel
theorem dX10_told_113 : decode cX10_told 113 = .ok (.getfield 134, 3) := by decide +kernel
theorem dX10_told_116 : decode cX10_told 116 = .ok (.iadd, 1) := by decide +kernel
theorem dX10_told_117 : decode cX10_told 117 = .ok (.if_icmp .lt 7, 3) := by decide +kernel
theorem dX10_told_120 : decode cX10_told 120 = .ok (.iconst (-1), 1) := by decide +kernel
theorem dX10_told_121 : decode cX10_told 121 = .ok (.goto 15, 3) := by decide +kernel
theorem dX10_told_124 : decode cX10_told 124 = .ok (.aload_n 0, 1) := by decide +kernel
theorem dX10_told_125 : decode cX10_told 125 = .ok (.getfield 19, 3) := by decide +kernel
theorem dX10_told_128 : decode cX10_told 128 = .ok (.getfield 141, 3) := by decide +kernel
theorem dX10_told_131 : decode cX10_told 131 = .ok (.iload_n 1, 1) := by decide +kernel
theorem dX10_told_132 : decode cX10_told 132 = .ok (.bipush 10, 2) := by decide +kernel
theorem dX10_told_134 : decode cX10_told 134 = .ok (.isub, 1) := by decide +kernel
theorem dX10_told_135 : decode cX10_told 135 = .ok (.iaload, 1) := by decide +kernel
theorem dX10_told_136 : decode cX10_told 136 = .ok (.ireturn, 1) := by decide +kernel
theorem dX10_value_0 : decode cX10_value 0 = .ok (.aload_n 0, 1) := by decide +kernel
theorem dX10_value_1 : decode cX10_value 1 = .ok (.getfield 35, 3) := by decide +kernel
theorem dX10_value_4 : decode cX10_value 4 = .ok (.iload_n 1, 1) := by decide +kernel
theorem dX10_value_5 : decode cX10_value 5 = .ok (.invokevirtual 145, 3) := by decide +kernel
theorem dX10_value_8 : decode cX10_value 8 = .ok (.ifCond .eq 15, 3) := by decide +kernel
theorem dX10_value_11 : decode cX10_value 11 = .ok (.aload_n 0, 1) := by decide +kernel
theorem dX10_value_12 : decode cX10_value 12 = .ok (.getfield 35, 3) := by decide +kernel
theorem dX10_value_15 : decode cX10_value 15 = .ok (.getfield 148, 3) := by decide +kernel
theorem dX10_value_18 : decode cX10_value 18 = .ok (.iload_n 1, 1) := by decide +kernel
theorem dX10_value_19 : decode cX10_value 19 = .ok (.iaload, 1) := by decide +kernel
theorem dX10_value_20 : decode cX10_value 20 = .ok (.goto 5, 3) := by decide +kernel
theorem dX10_value_23 : decode cX10_value 23 = .ok (.ldc 151, 2) := by decide +kernel
theorem dX10_value_25 : decode cX10_value 25 = .ok (.ireturn, 1) := by decide +kernel
theorem dX10_set_0 : decode cX10_set 0 = .ok (.aload_n 0, 1) := by decide +kernel
theorem dX10_set_1 : decode cX10_set 1 = .ok (.getfield 35, 3) := by decide +kernel
theorem dX10_set_4 : decode cX10_set 4 = .ok (.iload_n 1, 1) := by decide +kernel
theorem dX10_set_5 : decode cX10_set 5 = .ok (.invokevirtual 145, 3) := by decide +kernel
theorem dX10_set_8 : decode cX10_set 8 = .ok (.ifCond .ne 6, 3) := by decide +kernel
theorem dX10_set_11 : decode cX10_set 11 = .ok (.bipush (-2), 2) := by decide +kernel
theorem dX10_set_13 : decode cX10_set 13 = .ok (.ireturn, 1) := by decide +kernel
theorem dX10_set_14 : decode cX10_set 14 = .ok (.aload_n 0, 1) := by decide +kernel
theorem dX10_set_15 : decode cX10_set 15 = .ok (.getfield 35, 3) := by decide +kernel
theorem dX10_set_18 : decode cX10_set 18 = .ok (.getfield 148, 3) := by decide +kernel
theorem dX10_set_21 : decode cX10_set 21 = .ok (.iload_n 1, 1) := by decide +kernel
theorem dX10_set_22 : decode cX10_set 22 = .ok (.iload_n 2, 1) := by decide +kernel
theorem dX10_set_23 : decode cX10_set 23 = .ok (.iastore, 1) := by decide +kernel
theorem dX10_set_24 : decode cX10_set 24 = .ok (.iconst 1, 1) := by decide +kernel
theorem dX10_set_25 : decode cX10_set 25 = .ok (.ireturn, 1) := by decide +kernel
theorem dX10_entry_0 : decode cX10_entry 0 = .ok (.aload_n 0, 1) := by decide +kernel
theorem dX10_entry_1 : decode cX10_entry 1 = .ok (.getfield 35, 3) := by decide +kernel
theorem dX10_entry_4 : decode cX10_entry 4 = .ok (.iload_n 1, 1) := by decide +kernel
theorem dX10_entry_5 : decode cX10_entry 5 = .ok (.invokevirtual 145, 3) := by decide +kernel
theorem dX10_entry_8 : decode cX10_entry 8 = .ok (.ifCond .ne 6, 3) := by decide +kernel
theorem dX10_entry_11 : decode cX10_entry 11 = .ok (.bipush (-2), 2) := by decide +kernel
theorem dX10_entry_13 : decode cX10_entry 13 = .ok (.ireturn, 1) := by decide +kernel
theorem dX10_entry_14 : decode cX10_entry 14 = .ok (.aload_n 0, 1) := by decide +kernel
theorem dX10_entry_15 : decode cX10_entry 15 = .ok (.getfield 35, 3) := by decide +kernel
theorem dX10_entry_18 : decode cX10_entry 18 = .ok (.getfield 137, 3) := by decide +kernel
theorem dX10_entry_21 : decode cX10_entry 21 = .ok (.istore_n 2, 1) := by decide +kernel
theorem dX10_entry_22 : decode cX10_entry 22 = .ok (.aload_n 0, 1) := by decide +kernel
theorem dX10_entry_23 : decode cX10_entry 23 = .ok (.getfield 35, 3) := by decide +kernel
theorem dX10_entry_26 : decode cX10_entry 26 = .ok (.iload_n 1, 1) := by decide +kernel
theorem dX10_entry_27 : decode cX10_entry 27 = .ok (.putfield 137, 3) := by decide +kernel
theorem dX10_entry_30 : decode cX10_entry 30 = .ok (.iload_n 2, 1) := by decide +kernel
theorem dX10_entry_31 : decode cX10_entry 31 = .ok (.ireturn, 1) := by decide +kernel
theorem dX10_run_0 : decode cX10_run 0 = .ok (.aload_n 0, 1) := by decide +kernel
theorem dX10_run_1 : decode cX10_run 1 = .ok (.getfield 35, 3) := by decide +kernel
theorem dX10_run_4 : decode cX10_run 4 = .ok (.getfield 111, 3) := by decide +kernel
theorem dX10_run_7 : decode cX10_run 7 = .ok (.ifCond .ne 6, 3) := by decide +kernel
theorem dX10_run_10 : decode cX10_run 10 = .ok (.bipush (-4), 2) := by decide +kernel
theorem dX10_run_12 : decode cX10_run 12 = .ok (.ireturn, 1) := by decide +kernel
theorem dX10_run_13 : decode cX10_run 13 = .ok (.aload_n 0, 1) := by decide +kernel
theorem dX10_run_14 : decode cX10_run 14 = .ok (.getfield 58, 3) := by decide +kernel
theorem dX10_run_17 : decode cX10_run 17 = .ok (.aload_n 0, 1) := by decide +kernel
theorem dX10_run_18 : decode cX10_run 18 = .ok (.getfield 35, 3) := by decide +kernel
theorem dX10_run_21 : decode cX10_run 21 = .ok (.invokevirtual 152, 3) := by decide +kernel
theorem dX10_run_24 : decode cX10_run 24 = .ok (.aload_n 0, 1) := by decide +kernel
theorem dX10_run_25 : decode cX10_run 25 = .ok (.getfield 65, 3) := by decide +kernel
theorem dX10_run_28 : decode cX10_run 28 = .ok (.aload_n 0, 1) := by decide +kernel
theorem dX10_run_29 : decode cX10_run 29 = .ok (.getfield 58, 3) := by decide +kernel
theorem dX10_run_32 : decode cX10_run 32 = .ok (.aload_n 0, 1) := by decide +kernel
theorem dX10_run_33 : decode cX10_run 33 = .ok (.getfield 35, 3) := by decide +kernel
theorem dX10_run_36 : decode cX10_run 36 = .ok (.aload_n 0, 1) := by decide +kernel
theorem dX10_run_37 : decode cX10_run 37 = .ok (.getfield 51, 3) := by decide +kernel
theorem dX10_run_40 : decode cX10_run 40 = .ok (.invokevirtual 155, 3) := by decide +kernel
theorem dX10_run_43 : decode cX10_run 43 = .ok (.aload_n 0, 1) := by decide +kernel
theorem dX10_run_44 : decode cX10_run 44 = .ok (.getfield 58, 3) := by decide +kernel
theorem dX10_run_47 : decode cX10_run 47 = .ok (.getfield 159, 3) := by decide +kernel
theorem dX10_run_50 : decode cX10_run 50 = .ok (.ireturn, 1) := by decide +kernel
theorem dX10_ran_0 : decode cX10_ran 0 = .ok (.aload_n 0, 1) := by decide +kernel
theorem dX10_ran_1 : decode cX10_ran 1 = .ok (.getfield 65, 3) := by decide +kernel
theorem dX10_ran_4 : decode cX10_ran 4 = .ok (.iload_n 1, 1) := by decide +kernel
theorem dX10_ran_5 : decode cX10_ran 5 = .ok (.invokevirtual 162, 3) := by decide +kernel
theorem dX10_ran_8 : decode cX10_ran 8 = .ok (.ireturn, 1) := by decide +kernel
theorem dX10_of_0 : decode cX10_of 0 = .ok (.aload_n 0, 1) := by decide +kernel
theorem dX10_of_1 : decode cX10_of 1 = .ok (.getfield 35, 3) := by decide +kernel
theorem dX10_of_4 : decode cX10_of 4 = .ok (.iload_n 1, 1) := by decide +kernel
theorem dX10_of_5 : decode cX10_of 5 = .ok (.invokevirtual 145, 3) := by decide +kernel
theorem dX10_of_8 : decode cX10_of 8 = .ok (.ifCond .eq 15, 3) := by decide +kernel
theorem dX10_of_11 : decode cX10_of 11 = .ok (.aload_n 0, 1) := by decide +kernel
theorem dX10_of_12 : decode cX10_of 12 = .ok (.getfield 65, 3) := by decide +kernel
theorem dX10_of_15 : decode cX10_of 15 = .ok (.iload_n 1, 1) := by decide +kernel
theorem dX10_of_16 : decode cX10_of 16 = .ok (.iload_n 2, 1) := by decide +kernel
theorem dX10_of_17 : decode cX10_of 17 = .ok (.invokevirtual 166, 3) := by decide +kernel
theorem dX10_of_20 : decode cX10_of 20 = .ok (.goto 5, 3) := by decide +kernel
theorem dX10_of_23 : decode cX10_of 23 = .ok (.ldc 151, 2) := by decide +kernel
theorem dX10_of_25 : decode cX10_of 25 = .ok (.ireturn, 1) := by decide +kernel
theorem dX10_needed_0 : decode cX10_needed 0 = .ok (.aload_n 0, 1) := by decide +kernel
theorem dX10_needed_1 : decode cX10_needed 1 = .ok (.getfield 65, 3) := by decide +kernel
theorem dX10_needed_4 : decode cX10_needed 4 = .ok (.getfield 170, 3) := by decide +kernel
theorem dX10_needed_7 : decode cX10_needed 7 = .ok (.ireturn, 1) := by decide +kernel
theorem dX10_spot_0 : decode cX10_spot 0 = .ok (.aload_n 0, 1) := by decide +kernel
theorem dX10_spot_1 : decode cX10_spot 1 = .ok (.getfield 35, 3) := by decide +kernel
theorem dX10_spot_4 : decode cX10_spot 4 = .ok (.iload_n 1, 1) := by decide +kernel
theorem dX10_spot_5 : decode cX10_spot 5 = .ok (.invokevirtual 145, 3) := by decide +kernel
theorem dX10_spot_8 : decode cX10_spot 8 = .ok (.ifCond .eq 15, 3) := by decide +kernel
theorem dX10_spot_11 : decode cX10_spot 11 = .ok (.aload_n 0, 1) := by decide +kernel
theorem dX10_spot_12 : decode cX10_spot 12 = .ok (.getfield 51, 3) := by decide +kernel
theorem dX10_spot_15 : decode cX10_spot 15 = .ok (.getfield 173, 3) := by decide +kernel
theorem dX10_spot_18 : decode cX10_spot 18 = .ok (.iload_n 1, 1) := by decide +kernel
theorem dX10_spot_19 : decode cX10_spot 19 = .ok (.iaload, 1) := by decide +kernel
theorem dX10_spot_20 : decode cX10_spot 20 = .ok (.goto 5, 3) := by decide +kernel
theorem dX10_spot_23 : decode cX10_spot 23 = .ok (.bipush (-2), 2) := by decide +kernel
theorem dX10_spot_25 : decode cX10_spot 25 = .ok (.ireturn, 1) := by decide +kernel
theorem dX10_lay_0 : decode cX10_lay 0 = .ok (.aload_n 0, 1) := by decide +kernel
theorem dX10_lay_1 : decode cX10_lay 1 = .ok (.getfield 35, 3) := by decide +kernel
theorem dX10_lay_4 : decode cX10_lay 4 = .ok (.iload_n 1, 1) := by decide +kernel
theorem dX10_lay_5 : decode cX10_lay 5 = .ok (.invokevirtual 145, 3) := by decide +kernel
theorem dX10_lay_8 : decode cX10_lay 8 = .ok (.ifCond .eq 14, 3) := by decide +kernel
theorem dX10_lay_11 : decode cX10_lay 11 = .ok (.aload_n 0, 1) := by decide +kernel
theorem dX10_lay_12 : decode cX10_lay 12 = .ok (.getfield 19, 3) := by decide +kernel
theorem dX10_lay_15 : decode cX10_lay 15 = .ok (.iload_n 2, 1) := by decide +kernel
theorem dX10_lay_16 : decode cX10_lay 16 = .ok (.invokevirtual 176, 3) := by decide +kernel
theorem dX10_lay_19 : decode cX10_lay 19 = .ok (.ifCond .ne 6, 3) := by decide +kernel
theorem dX10_lay_22 : decode cX10_lay 22 = .ok (.bipush (-2), 2) := by decide +kernel
theorem dX10_lay_24 : decode cX10_lay 24 = .ok (.ireturn, 1) := by decide +kernel
theorem dX10_lay_25 : decode cX10_lay 25 = .ok (.aload_n 0, 1) := by decide +kernel
theorem dX10_lay_26 : decode cX10_lay 26 = .ok (.getfield 51, 3) := by decide +kernel
theorem dX10_lay_29 : decode cX10_lay 29 = .ok (.getfield 179, 3) := by decide +kernel
theorem dX10_lay_32 : decode cX10_lay 32 = .ok (.iload_n 2, 1) := by decide +kernel
theorem dX10_lay_33 : decode cX10_lay 33 = .ok (.iaload, 1) := by decide +kernel
theorem dX10_lay_34 : decode cX10_lay 34 = .ok (.istore_n 3, 1) := by decide +kernel
theorem dX10_lay_35 : decode cX10_lay 35 = .ok (.aload_n 0, 1) := by decide +kernel
theorem dX10_lay_36 : decode cX10_lay 36 = .ok (.getfield 51, 3) := by decide +kernel
theorem dX10_lay_39 : decode cX10_lay 39 = .ok (.getfield 182, 3) := by decide +kernel
theorem dX10_lay_42 : decode cX10_lay 42 = .ok (.iload_n 2, 1) := by decide +kernel
theorem dX10_lay_43 : decode cX10_lay 43 = .ok (.baload, 1) := by decide +kernel
theorem dX10_lay_44 : decode cX10_lay 44 = .ok (.ifCond .ne 13, 3) := by decide +kernel
theorem dX10_lay_47 : decode cX10_lay 47 = .ok (.iload_n 3, 1) := by decide +kernel
theorem dX10_lay_48 : decode cX10_lay 48 = .ok (.iconst (-1), 1) := by decide +kernel
theorem dX10_lay_49 : decode cX10_lay 49 = .ok (.if_icmp .eq 11, 3) := by decide +kernel
theorem dX10_lay_52 : decode cX10_lay 52 = .ok (.iload_n 3, 1) := by decide +kernel
theorem dX10_lay_53 : decode cX10_lay 53 = .ok (.iload_n 1, 1) := by decide +kernel
theorem dX10_lay_54 : decode cX10_lay 54 = .ok (.if_icmp .eq 6, 3) := by decide +kernel
theorem dX10_lay_57 : decode cX10_lay 57 = .ok (.bipush (-4), 2) := by decide +kernel
theorem dX10_lay_59 : decode cX10_lay 59 = .ok (.ireturn, 1) := by decide +kernel
theorem dX10_lay_60 : decode cX10_lay 60 = .ok (.aload_n 0, 1) := by decide +kernel
theorem dX10_lay_61 : decode cX10_lay 61 = .ok (.getfield 51, 3) := by decide +kernel
theorem dX10_lay_64 : decode cX10_lay 64 = .ok (.getfield 173, 3) := by decide +kernel
theorem dX10_lay_67 : decode cX10_lay 67 = .ok (.iload_n 1, 1) := by decide +kernel
theorem dX10_lay_68 : decode cX10_lay 68 = .ok (.iaload, 1) := by decide +kernel
theorem dX10_lay_69 : decode cX10_lay 69 = .ok (.istore 4, 2) := by decide +kernel
theorem dX10_lay_71 : decode cX10_lay 71 = .ok (.aload_n 0, 1) := by decide +kernel
theorem dX10_lay_72 : decode cX10_lay 72 = .ok (.getfield 51, 3) := by decide +kernel
theorem dX10_lay_75 : decode cX10_lay 75 = .ok (.iload_n 1, 1) := by decide +kernel
theorem dX10_lay_76 : decode cX10_lay 76 = .ok (.iload_n 2, 1) := by decide +kernel
theorem dX10_lay_77 : decode cX10_lay 77 = .ok (.invokevirtual 186, 3) := by decide +kernel
theorem dX10_lay_80 : decode cX10_lay 80 = .ok (.iload 4, 2) := by decide +kernel
theorem dX10_lay_82 : decode cX10_lay 82 = .ok (.ireturn, 1) := by decide +kernel
theorem dX10_spoil_0 : decode cX10_spoil 0 = .ok (.aload_n 0, 1) := by decide +kernel
theorem dX10_spoil_1 : decode cX10_spoil 1 = .ok (.getfield 19, 3) := by decide +kernel
theorem dX10_spoil_4 : decode cX10_spoil 4 = .ok (.iload_n 1, 1) := by decide +kernel
theorem dX10_spoil_5 : decode cX10_spoil 5 = .ok (.invokevirtual 176, 3) := by decide +kernel
theorem dX10_spoil_8 : decode cX10_spoil 8 = .ok (.ifCond .ne 6, 3) := by decide +kernel
theorem dX10_spoil_11 : decode cX10_spoil 11 = .ok (.bipush (-2), 2) := by decide +kernel
theorem dX10_spoil_13 : decode cX10_spoil 13 = .ok (.ireturn, 1) := by decide +kernel
theorem dX10_spoil_14 : decode cX10_spoil 14 = .ok (.aload_n 0, 1) := by decide +kernel
theorem dX10_spoil_15 : decode cX10_spoil 15 = .ok (.getfield 51, 3) := by decide +kernel
theorem dX10_spoil_18 : decode cX10_spoil 18 = .ok (.getfield 182, 3) := by decide +kernel
theorem dX10_spoil_21 : decode cX10_spoil 21 = .ok (.iload_n 1, 1) := by decide +kernel
theorem dX10_spoil_22 : decode cX10_spoil 22 = .ok (.baload, 1) := by decide +kernel
theorem dX10_spoil_23 : decode cX10_spoil 23 = .ok (.ifCond .eq 6, 3) := by decide +kernel
theorem dX10_spoil_26 : decode cX10_spoil 26 = .ok (.bipush (-4), 2) := by decide +kernel
theorem dX10_spoil_28 : decode cX10_spoil 28 = .ok (.ireturn, 1) := by decide +kernel
theorem dX10_spoil_29 : decode cX10_spoil 29 = .ok (.aload_n 0, 1) := by decide +kernel
theorem dX10_spoil_30 : decode cX10_spoil 30 = .ok (.getfield 51, 3) := by decide +kernel
theorem dX10_spoil_33 : decode cX10_spoil 33 = .ok (.getfield 182, 3) := by decide +kernel
theorem dX10_spoil_36 : decode cX10_spoil 36 = .ok (.iload_n 1, 1) := by decide +kernel
theorem dX10_spoil_37 : decode cX10_spoil 37 = .ok (.iconst 1, 1) := by decide +kernel
theorem dX10_spoil_38 : decode cX10_spoil 38 = .ok (.bastore, 1) := by decide +kernel
theorem dX10_spoil_39 : decode cX10_spoil 39 = .ok (.aload_n 0, 1) := by decide +kernel
theorem dX10_spoil_40 : decode cX10_spoil 40 = .ok (.getfield 51, 3) := by decide +kernel
theorem dX10_spoil_43 : decode cX10_spoil 43 = .ok (.getfield 179, 3) := by decide +kernel
theorem dX10_spoil_46 : decode cX10_spoil 46 = .ok (.iload_n 1, 1) := by decide +kernel
theorem dX10_spoil_47 : decode cX10_spoil 47 = .ok (.iaload, 1) := by decide +kernel
theorem dX10_spoil_48 : decode cX10_spoil 48 = .ok (.ireturn, 1) := by decide +kernel
theorem dX10_time_0 : decode cX10_time 0 = .ok (.aload_n 0, 1) := by decide +kernel
theorem dX10_time_1 : decode cX10_time 1 = .ok (.getfield 35, 3) := by decide +kernel
theorem dX10_time_4 : decode cX10_time 4 = .ok (.getfield 111, 3) := by decide +kernel
theorem dX10_time_7 : decode cX10_time 7 = .ok (.ifCond .ne 6, 3) := by decide +kernel
theorem dX10_time_10 : decode cX10_time 10 = .ok (.bipush (-4), 2) := by decide +kernel
theorem dX10_time_12 : decode cX10_time 12 = .ok (.ireturn, 1) := by decide +kernel
theorem dX10_time_13 : decode cX10_time 13 = .ok (.aload_n 0, 1) := by decide +kernel
theorem dX10_time_14 : decode cX10_time 14 = .ok (.getfield 58, 3) := by decide +kernel
theorem dX10_time_17 : decode cX10_time 17 = .ok (.aload_n 0, 1) := by decide +kernel
theorem dX10_time_18 : decode cX10_time 18 = .ok (.getfield 35, 3) := by decide +kernel
theorem dX10_time_21 : decode cX10_time 21 = .ok (.invokevirtual 152, 3) := by decide +kernel
theorem dX10_time_24 : decode cX10_time 24 = .ok (.aload_n 0, 1) := by decide +kernel
theorem dX10_time_25 : decode cX10_time 25 = .ok (.getfield 51, 3) := by decide +kernel
theorem dX10_time_28 : decode cX10_time 28 = .ok (.aload_n 0, 1) := by decide +kernel
theorem dX10_time_29 : decode cX10_time 29 = .ok (.getfield 58, 3) := by decide +kernel
theorem dX10_time_32 : decode cX10_time 32 = .ok (.invokevirtual 190, 3) := by decide +kernel
theorem dX10_time_35 : decode cX10_time 35 = .ok (.ireturn, 1) := by decide +kernel
theorem dX10_place_0 : decode cX10_place 0 = .ok (.aload_n 0, 1) := by decide +kernel
theorem dX10_place_1 : decode cX10_place 1 = .ok (.getfield 35, 3) := by decide +kernel
theorem dX10_place_4 : decode cX10_place 4 = .ok (.iload_n 1, 1) := by decide +kernel
theorem dX10_place_5 : decode cX10_place 5 = .ok (.invokevirtual 145, 3) := by decide +kernel
theorem dX10_place_8 : decode cX10_place 8 = .ok (.ifCond .ne 6, 3) := by decide +kernel
theorem dX10_place_11 : decode cX10_place 11 = .ok (.bipush (-2), 2) := by decide +kernel
theorem dX10_place_13 : decode cX10_place 13 = .ok (.ireturn, 1) := by decide +kernel
theorem dX10_place_14 : decode cX10_place 14 = .ok (.aload_n 0, 1) := by decide +kernel
theorem dX10_place_15 : decode cX10_place 15 = .ok (.getfield 58, 3) := by decide +kernel
theorem dX10_place_18 : decode cX10_place 18 = .ok (.aload_n 0, 1) := by decide +kernel
theorem dX10_place_19 : decode cX10_place 19 = .ok (.getfield 35, 3) := by decide +kernel
theorem dX10_place_22 : decode cX10_place 22 = .ok (.invokevirtual 152, 3) := by decide +kernel
theorem dX10_place_25 : decode cX10_place 25 = .ok (.aload_n 0, 1) := by decide +kernel
theorem dX10_place_26 : decode cX10_place 26 = .ok (.getfield 74, 3) := by decide +kernel
theorem dX10_place_29 : decode cX10_place 29 = .ok (.iload_n 1, 1) := by decide +kernel
theorem dX10_place_30 : decode cX10_place 30 = .ok (.invokevirtual 194, 3) := by decide +kernel
theorem dX10_place_33 : decode cX10_place 33 = .ok (.ireturn, 1) := by decide +kernel
theorem dX10_mend_0 : decode cX10_mend 0 = .ok (.aload_n 0, 1) := by decide +kernel
theorem dX10_mend_1 : decode cX10_mend 1 = .ok (.getfield 35, 3) := by decide +kernel
theorem dX10_mend_4 : decode cX10_mend 4 = .ok (.getfield 111, 3) := by decide +kernel
theorem dX10_mend_7 : decode cX10_mend 7 = .ok (.ifCond .ne 6, 3) := by decide +kernel
theorem dX10_mend_10 : decode cX10_mend 10 = .ok (.bipush (-4), 2) := by decide +kernel
theorem dX10_mend_12 : decode cX10_mend 12 = .ok (.ireturn, 1) := by decide +kernel
theorem dX10_mend_13 : decode cX10_mend 13 = .ok (.aload_n 0, 1) := by decide +kernel
theorem dX10_mend_14 : decode cX10_mend 14 = .ok (.getfield 58, 3) := by decide +kernel
theorem dX10_mend_17 : decode cX10_mend 17 = .ok (.aload_n 0, 1) := by decide +kernel
theorem dX10_mend_18 : decode cX10_mend 18 = .ok (.getfield 35, 3) := by decide +kernel
theorem dX10_mend_21 : decode cX10_mend 21 = .ok (.invokevirtual 152, 3) := by decide +kernel
theorem dX10_mend_24 : decode cX10_mend 24 = .ok (.aload_n 0, 1) := by decide +kernel
theorem dX10_mend_25 : decode cX10_mend 25 = .ok (.getfield 74, 3) := by decide +kernel
theorem dX10_mend_28 : decode cX10_mend 28 = .ok (.invokevirtual 197, 3) := by decide +kernel
theorem dX10_mend_31 : decode cX10_mend 31 = .ok (.ireturn, 1) := by decide +kernel
theorem dX10_exchange_0 : decode cX10_exchange 0 = .ok (.aload_n 0, 1) := by decide +kernel
theorem dX10_exchange_1 : decode cX10_exchange 1 = .ok (.getfield 35, 3) := by decide +kernel
theorem dX10_exchange_4 : decode cX10_exchange 4 = .ok (.getfield 111, 3) := by decide +kernel
theorem dX10_exchange_7 : decode cX10_exchange 7 = .ok (.ifCond .ne 6, 3) := by decide +kernel
theorem dX10_exchange_10 : decode cX10_exchange 10 = .ok (.bipush (-4), 2) := by decide +kernel
theorem dX10_exchange_12 : decode cX10_exchange 12 = .ok (.ireturn, 1) := by decide +kernel
theorem dX10_exchange_13 : decode cX10_exchange 13 = .ok (.aload_n 0, 1) := by decide +kernel
theorem dX10_exchange_14 : decode cX10_exchange 14 = .ok (.getfield 58, 3) := by decide +kernel
theorem dX10_exchange_17 : decode cX10_exchange 17 = .ok (.aload_n 0, 1) := by decide +kernel
theorem dX10_exchange_18 : decode cX10_exchange 18 = .ok (.getfield 35, 3) := by decide +kernel
theorem dX10_exchange_21 : decode cX10_exchange 21 = .ok (.invokevirtual 152, 3) := by decide +kernel
theorem dX10_exchange_24 : decode cX10_exchange 24 = .ok (.aload_n 0, 1) := by decide +kernel
theorem dX10_exchange_25 : decode cX10_exchange 25 = .ok (.getfield 74, 3) := by decide +kernel
theorem dX10_exchange_28 : decode cX10_exchange 28 = .ok (.invokevirtual 200, 3) := by decide +kernel
theorem dX10_exchange_31 : decode cX10_exchange 31 = .ok (.ireturn, 1) := by decide +kernel
theorem dX10_best_0 : decode cX10_best 0 = .ok (.lload_n 1, 1) := by decide +kernel
theorem dX10_best_1 : decode cX10_best 1 = .ok (.invokestatic 203, 3) := by decide +kernel
theorem dX10_best_4 : decode cX10_best 4 = .ok (.istore_n 3, 1) := by decide +kernel
theorem dX10_best_5 : decode cX10_best 5 = .ok (.iload_n 3, 1) := by decide +kernel
theorem dX10_best_6 : decode cX10_best 6 = .ok (.iconst 1, 1) := by decide +kernel
theorem dX10_best_7 : decode cX10_best 7 = .ok (.if_icmp .lt 23, 3) := by decide +kernel
theorem dX10_best_10 : decode cX10_best 10 = .ok (.iload_n 3, 1) := by decide +kernel
theorem dX10_best_11 : decode cX10_best 11 = .ok (.bipush 6, 2) := by decide +kernel
theorem dX10_best_13 : decode cX10_best 13 = .ok (.if_icmp .gt 17, 3) := by decide +kernel
theorem dX10_best_16 : decode cX10_best 16 = .ok (.lload_n 1, 1) := by decide +kernel
theorem dX10_best_17 : decode cX10_best 17 = .ok (.aload_n 0, 1) := by decide +kernel
theorem dX10_best_18 : decode cX10_best 18 = .ok (.getfield 35, 3) := by decide +kernel
theorem dX10_best_21 : decode cX10_best 21 = .ok (.getfield 111, 3) := by decide +kernel
theorem dX10_best_24 : decode cX10_best 24 = .ok (.lushr, 1) := by decide +kernel
theorem dX10_best_25 : decode cX10_best 25 = .ok (.lconst 0, 1) := by decide +kernel
theorem dX10_best_26 : decode cX10_best 26 = .ok (.lcmp, 1) := by decide +kernel
theorem dX10_best_27 : decode cX10_best 27 = .ok (.ifCond .eq 6, 3) := by decide +kernel
theorem dX10_best_30 : decode cX10_best 30 = .ok (.bipush (-2), 2) := by decide +kernel
theorem dX10_best_32 : decode cX10_best 32 = .ok (.ireturn, 1) := by decide +kernel
theorem dX10_best_33 : decode cX10_best 33 = .ok (.aload_n 0, 1) := by decide +kernel
theorem dX10_best_34 : decode cX10_best 34 = .ok (.getfield 74, 3) := by decide +kernel
theorem dX10_best_37 : decode cX10_best 37 = .ok (.lload_n 1, 1) := by decide +kernel
theorem dX10_best_38 : decode cX10_best 38 = .ok (.invokevirtual 209, 3) := by decide +kernel
theorem dX10_best_41 : decode cX10_best 41 = .ok (.ifCond .ne 6, 3) := by decide +kernel
theorem dX10_best_44 : decode cX10_best 44 = .ok (.bipush (-4), 2) := by decide +kernel
theorem dX10_best_46 : decode cX10_best 46 = .ok (.ireturn, 1) := by decide +kernel
theorem dX10_best_47 : decode cX10_best 47 = .ok (.aload_n 0, 1) := by decide +kernel
theorem dX10_best_48 : decode cX10_best 48 = .ok (.getfield 58, 3) := by decide +kernel
theorem dX10_best_51 : decode cX10_best 51 = .ok (.aload_n 0, 1) := by decide +kernel
theorem dX10_best_52 : decode cX10_best 52 = .ok (.getfield 35, 3) := by decide +kernel
theorem dX10_best_55 : decode cX10_best 55 = .ok (.invokevirtual 152, 3) := by decide +kernel
theorem dX10_best_58 : decode cX10_best 58 = .ok (.aload_n 0, 1) := by decide +kernel
theorem dX10_best_59 : decode cX10_best 59 = .ok (.getfield 74, 3) := by decide +kernel
theorem dX10_best_62 : decode cX10_best 62 = .ok (.invokevirtual 213, 3) := by decide +kernel
theorem dX10_best_65 : decode cX10_best 65 = .ok (.ireturn, 1) := by decide +kernel
theorem dX10_keep_0 : decode cX10_keep 0 = .ok (.iload_n 1, 1) := by decide +kernel
theorem dX10_keep_1 : decode cX10_keep 1 = .ok (.ifCond .lt 8, 3) := by decide +kernel
theorem dX10_keep_4 : decode cX10_keep 4 = .ok (.iload_n 1, 1) := by decide +kernel
theorem dX10_keep_5 : decode cX10_keep 5 = .ok (.iconst 4, 1) := by decide +kernel
theorem dX10_keep_6 : decode cX10_keep 6 = .ok (.if_icmp .lt 6, 3) := by decide +kernel
theorem dX10_keep_9 : decode cX10_keep 9 = .ok (.bipush (-2), 2) := by decide +kernel
theorem dX10_keep_11 : decode cX10_keep 11 = .ok (.ireturn, 1) := by decide +kernel
theorem dX10_keep_12 : decode cX10_keep 12 = .ok (.aload_n 0, 1) := by decide +kernel
theorem dX10_keep_13 : decode cX10_keep 13 = .ok (.getfield 35, 3) := by decide +kernel
theorem dX10_keep_16 : decode cX10_keep 16 = .ok (.getfield 111, 3) := by decide +kernel
theorem dX10_keep_19 : decode cX10_keep 19 = .ok (.ifCond .ne 6, 3) := by decide +kernel
theorem dX10_keep_22 : decode cX10_keep 22 = .ok (.bipush (-4), 2) := by decide +kernel
theorem dX10_keep_24 : decode cX10_keep 24 = .ok (.ireturn, 1) := by decide +kernel
theorem dX10_keep_25 : decode cX10_keep 25 = .ok (.aload_n 0, 1) := by decide +kernel
theorem dX10_keep_26 : decode cX10_keep 26 = .ok (.getfield 51, 3) := by decide +kernel
theorem dX10_keep_29 : decode cX10_keep 29 = .ok (.iload_n 1, 1) := by decide +kernel
theorem dX10_keep_30 : decode cX10_keep 30 = .ok (.invokevirtual 216, 3) := by decide +kernel
theorem dX10_keep_33 : decode cX10_keep 33 = .ok (.iconst 1, 1) := by decide +kernel
theorem dX10_keep_34 : decode cX10_keep 34 = .ok (.ireturn, 1) := by decide +kernel
theorem dX10_take_0 : decode cX10_take 0 = .ok (.iload_n 1, 1) := by decide +kernel
theorem dX10_take_1 : decode cX10_take 1 = .ok (.ifCond .lt 8, 3) := by decide +kernel
theorem dX10_take_4 : decode cX10_take 4 = .ok (.iload_n 1, 1) := by decide +kernel
theorem dX10_take_5 : decode cX10_take 5 = .ok (.iconst 4, 1) := by decide +kernel
theorem dX10_take_6 : decode cX10_take 6 = .ok (.if_icmp .lt 6, 3) := by decide +kernel
theorem dX10_take_9 : decode cX10_take 9 = .ok (.bipush (-2), 2) := by decide +kernel
theorem dX10_take_11 : decode cX10_take 11 = .ok (.ireturn, 1) := by decide +kernel
theorem dX10_take_12 : decode cX10_take 12 = .ok (.aload_n 0, 1) := by decide +kernel
theorem dX10_take_13 : decode cX10_take 13 = .ok (.getfield 51, 3) := by decide +kernel
theorem dX10_take_16 : decode cX10_take 16 = .ok (.iload_n 1, 1) := by decide +kernel
theorem dX10_take_17 : decode cX10_take 17 = .ok (.invokevirtual 219, 3) := by decide +kernel
theorem dX10_take_20 : decode cX10_take 20 = .ok (.ifCond .ne 6, 3) := by decide +kernel
theorem dX10_take_23 : decode cX10_take 23 = .ok (.bipush (-4), 2) := by decide +kernel
theorem dX10_take_25 : decode cX10_take 25 = .ok (.ireturn, 1) := by decide +kernel
theorem dX10_take_26 : decode cX10_take 26 = .ok (.aload_n 0, 1) := by decide +kernel
theorem dX10_take_27 : decode cX10_take 27 = .ok (.getfield 51, 3) := by decide +kernel
theorem dX10_take_30 : decode cX10_take 30 = .ok (.iload_n 1, 1) := by decide +kernel
theorem dX10_take_31 : decode cX10_take 31 = .ok (.invokevirtual 222, 3) := by decide +kernel
theorem dX10_take_34 : decode cX10_take 34 = .ok (.aload_n 0, 1) := by decide +kernel
theorem dX10_take_35 : decode cX10_take 35 = .ok (.getfield 58, 3) := by decide +kernel
theorem dX10_take_38 : decode cX10_take 38 = .ok (.aload_n 0, 1) := by decide +kernel
theorem dX10_take_39 : decode cX10_take 39 = .ok (.getfield 35, 3) := by decide +kernel
theorem dX10_take_42 : decode cX10_take 42 = .ok (.invokevirtual 152, 3) := by decide +kernel
theorem dX10_take_45 : decode cX10_take 45 = .ok (.aload_n 0, 1) := by decide +kernel
theorem dX10_take_46 : decode cX10_take 46 = .ok (.getfield 51, 3) := by decide +kernel
theorem dX10_take_49 : decode cX10_take 49 = .ok (.aload_n 0, 1) := by decide +kernel
theorem dX10_take_50 : decode cX10_take 50 = .ok (.getfield 58, 3) := by decide +kernel
theorem dX10_take_53 : decode cX10_take 53 = .ok (.invokevirtual 190, 3) := by decide +kernel
theorem dX10_take_56 : decode cX10_take 56 = .ok (.ireturn, 1) := by decide +kernel
theorem dX10_longest_0 : decode cX10_longest 0 = .ok (.aload_n 0, 1) := by decide +kernel
theorem dX10_longest_1 : decode cX10_longest 1 = .ok (.getfield 35, 3) := by decide +kernel
theorem dX10_longest_4 : decode cX10_longest 4 = .ok (.iload_n 1, 1) := by decide +kernel
theorem dX10_longest_5 : decode cX10_longest 5 = .ok (.invokevirtual 145, 3) := by decide +kernel
theorem dX10_longest_8 : decode cX10_longest 8 = .ok (.ifCond .eq 20, 3) := by decide +kernel
theorem dX10_longest_11 : decode cX10_longest 11 = .ok (.iload_n 2, 1) := by decide +kernel
theorem dX10_longest_12 : decode cX10_longest 12 = .ok (.iload_n 3, 1) := by decide +kernel
theorem dX10_longest_13 : decode cX10_longest 13 = .ok (.if_icmp .gt 15, 3) := by decide +kernel
theorem dX10_longest_16 : decode cX10_longest 16 = .ok (.iload_n 3, 1) := by decide +kernel
theorem dX10_longest_17 : decode cX10_longest 17 = .ok (.i2l, 1) := by decide +kernel
theorem dX10_longest_18 : decode cX10_longest 18 = .ok (.iload_n 2, 1) := by decide +kernel
theorem dX10_longest_19 : decode cX10_longest 19 = .ok (.i2l, 1) := by decide +kernel
theorem dX10_longest_20 : decode cX10_longest 20 = .ok (.lsub, 1) := by decide +kernel
theorem dX10_longest_21 : decode cX10_longest 21 = .ok (.ldc2_w 225, 3) := by decide +kernel
theorem dX10_longest_24 : decode cX10_longest 24 = .ok (.lcmp, 1) := by decide +kernel
theorem dX10_longest_25 : decode cX10_longest 25 = .ok (.ifCond .le 6, 3) := by decide +kernel
theorem dX10_longest_28 : decode cX10_longest 28 = .ok (.bipush (-2), 2) := by decide +kernel
theorem dX10_longest_30 : decode cX10_longest 30 = .ok (.ireturn, 1) := by decide +kernel
theorem dX10_longest_31 : decode cX10_longest 31 = .ok (.iload 4, 2) := by decide +kernel
theorem dX10_longest_33 : decode cX10_longest 33 = .ok (.ifCond .eq 11, 3) := by decide +kernel
theorem dX10_longest_36 : decode cX10_longest 36 = .ok (.iload 4, 2) := by decide +kernel
theorem dX10_longest_38 : decode cX10_longest 38 = .ok (.iconst 1, 1) := by decide +kernel
theorem dX10_longest_39 : decode cX10_longest 39 = .ok (.if_icmp .eq 5, 3) := by decide +kernel
theorem dX10_longest_42 : decode cX10_longest 42 = .ok (.iconst (-1), 1) := by decide +kernel
theorem dX10_longest_43 : decode cX10_longest 43 = .ok (.ireturn, 1) := by decide +kernel
theorem dX10_longest_44 : decode cX10_longest 44 = .ok (.aload_n 0, 1) := by decide +kernel
theorem dX10_longest_45 : decode cX10_longest 45 = .ok (.getfield 35, 3) := by decide +kernel
theorem dX10_longest_48 : decode cX10_longest 48 = .ok (.getfield 148, 3) := by decide +kernel
theorem dX10_longest_51 : decode cX10_longest 51 = .ok (.iload_n 1, 1) := by decide +kernel
theorem dX10_longest_52 : decode cX10_longest 52 = .ok (.iaload, 1) := by decide +kernel
theorem dX10_longest_53 : decode cX10_longest 53 = .ok (.istore 5, 2) := by decide +kernel
theorem dX10_longest_55 : decode cX10_longest 55 = .ok (.iconst (-1), 1) := by decide +kernel
theorem dX10_longest_56 : decode cX10_longest 56 = .ok (.istore 6, 2) := by decide +kernel
theorem dX10_longest_58 : decode cX10_longest 58 = .ok (.iload_n 2, 1) := by decide +kernel
theorem dX10_longest_59 : decode cX10_longest 59 = .ok (.istore 7, 2) := by decide +kernel
theorem dX10_longest_61 : decode cX10_longest 61 = .ok (.iconst 0, 1) := by decide +kernel
theorem dX10_longest_62 : decode cX10_longest 62 = .ok (.istore 8, 2) := by decide +kernel
theorem dX10_longest_64 : decode cX10_longest 64 = .ok (.iload 8, 2) := by decide +kernel
theorem dX10_longest_66 : decode cX10_longest 66 = .ok (.iload_n 3, 1) := by decide +kernel
theorem dX10_longest_67 : decode cX10_longest 67 = .ok (.iload_n 2, 1) := by decide +kernel
theorem dX10_longest_68 : decode cX10_longest 68 = .ok (.isub, 1) := by decide +kernel
theorem dX10_longest_69 : decode cX10_longest 69 = .ok (.if_icmp .gt 77, 3) := by decide +kernel
theorem dX10_longest_72 : decode cX10_longest 72 = .ok (.aload_n 0, 1) := by decide +kernel
theorem dX10_longest_73 : decode cX10_longest 73 = .ok (.getfield 35, 3) := by decide +kernel
theorem dX10_longest_76 : decode cX10_longest 76 = .ok (.getfield 148, 3) := by decide +kernel
theorem dX10_longest_79 : decode cX10_longest 79 = .ok (.iload_n 1, 1) := by decide +kernel
theorem dX10_longest_80 : decode cX10_longest 80 = .ok (.iload_n 2, 1) := by decide +kernel
theorem dX10_longest_81 : decode cX10_longest 81 = .ok (.iload 8, 2) := by decide +kernel
theorem dX10_longest_83 : decode cX10_longest 83 = .ok (.iadd, 1) := by decide +kernel
theorem dX10_longest_84 : decode cX10_longest 84 = .ok (.iastore, 1) := by decide +kernel
theorem dX10_longest_85 : decode cX10_longest 85 = .ok (.aload_n 0, 1) := by decide +kernel
theorem dX10_longest_86 : decode cX10_longest 86 = .ok (.getfield 58, 3) := by decide +kernel
theorem dX10_longest_89 : decode cX10_longest 89 = .ok (.aload_n 0, 1) := by decide +kernel
theorem dX10_longest_90 : decode cX10_longest 90 = .ok (.getfield 35, 3) := by decide +kernel
theorem dX10_longest_93 : decode cX10_longest 93 = .ok (.invokevirtual 152, 3) := by decide +kernel
theorem dX10_longest_96 : decode cX10_longest 96 = .ok (.aload_n 0, 1) := by decide +kernel
theorem dX10_longest_97 : decode cX10_longest 97 = .ok (.getfield 58, 3) := by decide +kernel
theorem dX10_longest_100 : decode cX10_longest 100 = .ok (.getfield 227, 3) := by decide +kernel
theorem dX10_longest_103 : decode cX10_longest 103 = .ok (.ifCond .ne 17, 3) := by decide +kernel
theorem dX10_longest_106 : decode cX10_longest 106 = .ok (.aload_n 0, 1) := by decide +kernel
theorem dX10_longest_107 : decode cX10_longest 107 = .ok (.getfield 51, 3) := by decide +kernel
theorem dX10_longest_110 : decode cX10_longest 110 = .ok (.aload_n 0, 1) := by decide +kernel
theorem dX10_longest_111 : decode cX10_longest 111 = .ok (.getfield 58, 3) := by decide +kernel
theorem dX10_longest_114 : decode cX10_longest 114 = .ok (.invokevirtual 190, 3) := by decide +kernel
theorem dX10_longest_117 : decode cX10_longest 117 = .ok (.goto 4, 3) := by decide +kernel
theorem dX10_longest_120 : decode cX10_longest 120 = .ok (.iconst (-1), 1) := by decide +kernel
theorem dX10_longest_121 : decode cX10_longest 121 = .ok (.istore 9, 2) := by decide +kernel
theorem dX10_longest_123 : decode cX10_longest 123 = .ok (.iload 9, 2) := by decide +kernel
theorem dX10_longest_125 : decode cX10_longest 125 = .ok (.iload 6, 2) := by decide +kernel
theorem dX10_longest_127 : decode cX10_longest 127 = .ok (.if_icmp .le 13, 3) := by decide +kernel
theorem dX10_longest_130 : decode cX10_longest 130 = .ok (.iload 9, 2) := by decide +kernel
theorem dX10_longest_132 : decode cX10_longest 132 = .ok (.istore 6, 2) := by decide +kernel
theorem dX10_longest_134 : decode cX10_longest 134 = .ok (.iload_n 2, 1) := by decide +kernel
theorem dX10_longest_135 : decode cX10_longest 135 = .ok (.iload 8, 2) := by decide +kernel
theorem dX10_longest_137 : decode cX10_longest 137 = .ok (.iadd, 1) := by decide +kernel
theorem dX10_longest_138 : decode cX10_longest 138 = .ok (.istore 7, 2) := by decide +kernel
theorem dX10_longest_140 : decode cX10_longest 140 = .ok (.iinc 8 1, 3) := by decide +kernel
theorem dX10_longest_143 : decode cX10_longest 143 = .ok (.goto (-79), 3) := by decide +kernel
theorem dX10_longest_146 : decode cX10_longest 146 = .ok (.aload_n 0, 1) := by decide +kernel
theorem dX10_longest_147 : decode cX10_longest 147 = .ok (.getfield 35, 3) := by decide +kernel
theorem dX10_longest_150 : decode cX10_longest 150 = .ok (.getfield 148, 3) := by decide +kernel
theorem dX10_longest_153 : decode cX10_longest 153 = .ok (.iload_n 1, 1) := by decide +kernel
theorem dX10_longest_154 : decode cX10_longest 154 = .ok (.iload 5, 2) := by decide +kernel
theorem dX10_longest_156 : decode cX10_longest 156 = .ok (.iastore, 1) := by decide +kernel
theorem dX10_longest_157 : decode cX10_longest 157 = .ok (.iload 6, 2) := by decide +kernel
theorem dX10_longest_159 : decode cX10_longest 159 = .ok (.iconst (-1), 1) := by decide +kernel
theorem dX10_longest_160 : decode cX10_longest 160 = .ok (.if_icmp .ne 6, 3) := by decide +kernel
theorem dX10_longest_163 : decode cX10_longest 163 = .ok (.bipush (-4), 2) := by decide +kernel
theorem dX10_longest_165 : decode cX10_longest 165 = .ok (.ireturn, 1) := by decide +kernel
theorem dX10_longest_166 : decode cX10_longest 166 = .ok (.iload 4, 2) := by decide +kernel
theorem dX10_longest_168 : decode cX10_longest 168 = .ok (.ifCond .ne 8, 3) := by decide +kernel
theorem dX10_longest_171 : decode cX10_longest 171 = .ok (.iload 6, 2) := by decide +kernel
theorem dX10_longest_173 : decode cX10_longest 173 = .ok (.goto 5, 3) := by decide +kernel
theorem dX10_longest_176 : decode cX10_longest 176 = .ok (.iload 7, 2) := by decide +kernel
theorem dX10_longest_178 : decode cX10_longest 178 = .ok (.ireturn, 1) := by decide +kernel
theorem dX10_step_0 : decode cX10_step 0 = .ok (.iload_n 1, 1) := by decide +kernel
theorem dX10_step_1 : decode cX10_step 1 = .ok (.iconst 2, 1) := by decide +kernel
theorem dX10_step_2 : decode cX10_step 2 = .ok (.if_icmp .lt 21, 3) := by decide +kernel
theorem dX10_step_5 : decode cX10_step 5 = .ok (.iload_n 1, 1) := by decide +kernel
theorem dX10_step_6 : decode cX10_step 6 = .ok (.bipush 32, 2) := by decide +kernel
theorem dX10_step_8 : decode cX10_step 8 = .ok (.if_icmp .gt 15, 3) := by decide +kernel
theorem dX10_step_11 : decode cX10_step 11 = .ok (.iload_n 2, 1) := by decide +kernel
theorem dX10_step_12 : decode cX10_step 12 = .ok (.iconst 1, 1) := by decide +kernel
theorem dX10_step_13 : decode cX10_step 13 = .ok (.if_icmp .lt 10, 3) := by decide +kernel
theorem dX10_step_16 : decode cX10_step 16 = .ok (.iload_n 2, 1) := by decide +kernel
theorem dX10_step_17 : decode cX10_step 17 = .ok (.sipush 1000, 3) := by decide +kernel
theorem dX10_step_20 : decode cX10_step 20 = .ok (.if_icmp .le 6, 3) := by decide +kernel
theorem dX10_step_23 : decode cX10_step 23 = .ok (.bipush (-2), 2) := by decide +kernel
theorem dX10_step_25 : decode cX10_step 25 = .ok (.ireturn, 1) := by decide +kernel
theorem dX10_step_26 : decode cX10_step 26 = .ok (.aload_n 0, 1) := by decide +kernel
theorem dX10_step_27 : decode cX10_step 27 = .ok (.getfield 19, 3) := by decide +kernel
theorem dX10_step_30 : decode cX10_step 30 = .ok (.iload_n 1, 1) := by decide +kernel
theorem dX10_step_31 : decode cX10_step 31 = .ok (.iload_n 2, 1) := by decide +kernel
theorem dX10_step_32 : decode cX10_step 32 = .ok (.invokevirtual 230, 3) := by decide +kernel
theorem dX10_step_35 : decode cX10_step 35 = .ok (.ireturn, 1) := by decide +kernel
theorem dX10_known_0 : decode cX10_known 0 = .ok (.aload_n 0, 1) := by decide +kernel
theorem dX10_known_1 : decode cX10_known 1 = .ok (.getfield 35, 3) := by decide +kernel
theorem dX10_known_4 : decode cX10_known 4 = .ok (.iload_n 1, 1) := by decide +kernel
theorem dX10_known_5 : decode cX10_known 5 = .ok (.invokevirtual 145, 3) := by decide +kernel
theorem dX10_known_8 : decode cX10_known 8 = .ok (.ifCond .eq 14, 3) := by decide +kernel
theorem dX10_known_11 : decode cX10_known 11 = .ok (.aload_n 0, 1) := by decide +kernel
theorem dX10_known_12 : decode cX10_known 12 = .ok (.getfield 35, 3) := by decide +kernel
theorem dX10_known_15 : decode cX10_known 15 = .ok (.iload_n 1, 1) := by decide +kernel
theorem dX10_known_16 : decode cX10_known 16 = .ok (.invokevirtual 233, 3) := by decide +kernel
theorem dX10_known_19 : decode cX10_known 19 = .ok (.goto 5, 3) := by decide +kernel
theorem dX10_known_22 : decode cX10_known 22 = .ok (.bipush (-2), 2) := by decide +kernel
theorem dX10_known_24 : decode cX10_known 24 = .ok (.ireturn, 1) := by decide +kernel
theorem dX10_job_0 : decode cX10_job 0 = .ok (.iload_n 1, 1) := by decide +kernel
theorem dX10_job_1 : decode cX10_job 1 = .ok (.iconst 1, 1) := by decide +kernel
theorem dX10_job_2 : decode cX10_job 2 = .ok (.if_icmp .lt 21, 3) := by decide +kernel
theorem dX10_job_5 : decode cX10_job 5 = .ok (.iload_n 1, 1) := by decide +kernel
theorem dX10_job_6 : decode cX10_job 6 = .ok (.sipush 9999, 3) := by decide +kernel
theorem dX10_job_9 : decode cX10_job 9 = .ok (.if_icmp .gt 14, 3) := by decide +kernel
theorem dX10_job_12 : decode cX10_job 12 = .ok (.iload_n 2, 1) := by decide +kernel
theorem dX10_job_13 : decode cX10_job 13 = .ok (.iconst 1, 1) := by decide +kernel
theorem dX10_job_14 : decode cX10_job 14 = .ok (.if_icmp .lt 9, 3) := by decide +kernel
theorem dX10_job_17 : decode cX10_job 17 = .ok (.iload_n 2, 1) := by decide +kernel
theorem dX10_job_18 : decode cX10_job 18 = .ok (.ldc 236, 2) := by decide +kernel
theorem dX10_job_20 : decode cX10_job 20 = .ok (.if_icmp .le 6, 3) := by decide +kernel
theorem dX10_job_23 : decode cX10_job 23 = .ok (.bipush (-2), 2) := by decide +kernel
theorem dX10_job_25 : decode cX10_job 25 = .ok (.ireturn, 1) := by decide +kernel
theorem dX10_job_26 : decode cX10_job 26 = .ok (.aload_n 0, 1) := by decide +kernel
theorem dX10_job_27 : decode cX10_job 27 = .ok (.getfield 81, 3) := by decide +kernel
theorem dX10_job_30 : decode cX10_job 30 = .ok (.iload_n 1, 1) := by decide +kernel
theorem dX10_job_31 : decode cX10_job 31 = .ok (.iload_n 2, 1) := by decide +kernel
theorem dX10_job_32 : decode cX10_job 32 = .ok (.invokevirtual 237, 3) := by decide +kernel
theorem dX10_job_35 : decode cX10_job 35 = .ok (.ireturn, 1) := by decide +kernel
theorem dX10_night_0 : decode cX10_night 0 = .ok (.aload_n 0, 1) := by decide +kernel
theorem dX10_night_1 : decode cX10_night 1 = .ok (.getfield 81, 3) := by decide +kernel
theorem dX10_night_4 : decode cX10_night 4 = .ok (.invokevirtual 239, 3) := by decide +kernel
theorem dX10_night_7 : decode cX10_night 7 = .ok (.ireturn, 1) := by decide +kernel
theorem dX10_startAfresh_0 : decode cX10_startAfresh 0 = .ok (.aload_n 0, 1) := by decide +kernel
theorem dX10_startAfresh_1 : decode cX10_startAfresh 1 = .ok (.getfield 51, 3) := by decide +kernel
theorem dX10_startAfresh_4 : decode cX10_startAfresh 4 = .ok (.aload_n 0, 1) := by decide +kernel
theorem dX10_startAfresh_5 : decode cX10_startAfresh 5 = .ok (.getfield 35, 3) := by decide +kernel
theorem dX10_startAfresh_8 : decode cX10_startAfresh 8 = .ok (.getfield 111, 3) := by decide +kernel
theorem dX10_startAfresh_11 : decode cX10_startAfresh 11 = .ok (.invokevirtual 242, 3) := by decide +kernel
theorem dX10_startAfresh_14 : decode cX10_startAfresh 14 = .ok (.aload_n 0, 1) := by decide +kernel
theorem dX10_startAfresh_15 : decode cX10_startAfresh 15 = .ok (.getfield 65, 3) := by decide +kernel
theorem dX10_startAfresh_18 : decode cX10_startAfresh 18 = .ok (.invokevirtual 245, 3) := by decide +kernel
theorem dX10_startAfresh_21 : decode cX10_startAfresh 21 = .ok (.return_, 1) := by decide +kernel
theorem dJ6_bitCount_0f7a4_0 : decode cJ6_bitCount_0f7a4 0 = .ok (.iload_n 0, 1) := by decide +kernel
theorem dJ6_bitCount_0f7a4_1 : decode cJ6_bitCount_0f7a4 1 = .ok (.iload_n 0, 1) := by decide +kernel
theorem dJ6_bitCount_0f7a4_2 : decode cJ6_bitCount_0f7a4 2 = .ok (.iconst 1, 1) := by decide +kernel
theorem dJ6_bitCount_0f7a4_3 : decode cJ6_bitCount_0f7a4 3 = .ok (.iushr, 1) := by decide +kernel
theorem dJ6_bitCount_0f7a4_4 : decode cJ6_bitCount_0f7a4 4 = .ok (.ldc_w 265, 3) := by decide +kernel
theorem dJ6_bitCount_0f7a4_7 : decode cJ6_bitCount_0f7a4 7 = .ok (.iand, 1) := by decide +kernel
theorem dJ6_bitCount_0f7a4_8 : decode cJ6_bitCount_0f7a4 8 = .ok (.isub, 1) := by decide +kernel
theorem dJ6_bitCount_0f7a4_9 : decode cJ6_bitCount_0f7a4 9 = .ok (.istore_n 0, 1) := by decide +kernel
theorem dJ6_bitCount_0f7a4_10 : decode cJ6_bitCount_0f7a4 10 = .ok (.iload_n 0, 1) := by decide +kernel
theorem dJ6_bitCount_0f7a4_11 : decode cJ6_bitCount_0f7a4 11 = .ok (.ldc_w 266, 3) := by decide +kernel
theorem dJ6_bitCount_0f7a4_14 : decode cJ6_bitCount_0f7a4 14 = .ok (.iand, 1) := by decide +kernel
theorem dJ6_bitCount_0f7a4_15 : decode cJ6_bitCount_0f7a4 15 = .ok (.iload_n 0, 1) := by decide +kernel
theorem dJ6_bitCount_0f7a4_16 : decode cJ6_bitCount_0f7a4 16 = .ok (.iconst 2, 1) := by decide +kernel
theorem dJ6_bitCount_0f7a4_17 : decode cJ6_bitCount_0f7a4 17 = .ok (.iushr, 1) := by decide +kernel
theorem dJ6_bitCount_0f7a4_18 : decode cJ6_bitCount_0f7a4 18 = .ok (.ldc_w 266, 3) := by decide +kernel
theorem dJ6_bitCount_0f7a4_21 : decode cJ6_bitCount_0f7a4 21 = .ok (.iand, 1) := by decide +kernel
theorem dJ6_bitCount_0f7a4_22 : decode cJ6_bitCount_0f7a4 22 = .ok (.iadd, 1) := by decide +kernel
theorem dJ6_bitCount_0f7a4_23 : decode cJ6_bitCount_0f7a4 23 = .ok (.istore_n 0, 1) := by decide +kernel
theorem dJ6_bitCount_0f7a4_24 : decode cJ6_bitCount_0f7a4 24 = .ok (.iload_n 0, 1) := by decide +kernel
theorem dJ6_bitCount_0f7a4_25 : decode cJ6_bitCount_0f7a4 25 = .ok (.iload_n 0, 1) := by decide +kernel
theorem dJ6_bitCount_0f7a4_26 : decode cJ6_bitCount_0f7a4 26 = .ok (.iconst 4, 1) := by decide +kernel
theorem dJ6_bitCount_0f7a4_27 : decode cJ6_bitCount_0f7a4 27 = .ok (.iushr, 1) := by decide +kernel
theorem dJ6_bitCount_0f7a4_28 : decode cJ6_bitCount_0f7a4 28 = .ok (.iadd, 1) := by decide +kernel
theorem dJ6_bitCount_0f7a4_29 : decode cJ6_bitCount_0f7a4 29 = .ok (.ldc_w 267, 3) := by decide +kernel
theorem dJ6_bitCount_0f7a4_32 : decode cJ6_bitCount_0f7a4 32 = .ok (.iand, 1) := by decide +kernel
theorem dJ6_bitCount_0f7a4_33 : decode cJ6_bitCount_0f7a4 33 = .ok (.istore_n 0, 1) := by decide +kernel
theorem dJ6_bitCount_0f7a4_34 : decode cJ6_bitCount_0f7a4 34 = .ok (.iload_n 0, 1) := by decide +kernel
theorem dJ6_bitCount_0f7a4_35 : decode cJ6_bitCount_0f7a4 35 = .ok (.iload_n 0, 1) := by decide +kernel
theorem dJ6_bitCount_0f7a4_36 : decode cJ6_bitCount_0f7a4 36 = .ok (.bipush 8, 2) := by decide +kernel
theorem dJ6_bitCount_0f7a4_38 : decode cJ6_bitCount_0f7a4 38 = .ok (.iushr, 1) := by decide +kernel
theorem dJ6_bitCount_0f7a4_39 : decode cJ6_bitCount_0f7a4 39 = .ok (.iadd, 1) := by decide +kernel
theorem dJ6_bitCount_0f7a4_40 : decode cJ6_bitCount_0f7a4 40 = .ok (.istore_n 0, 1) := by decide +kernel
theorem dJ6_bitCount_0f7a4_41 : decode cJ6_bitCount_0f7a4 41 = .ok (.iload_n 0, 1) := by decide +kernel
theorem dJ6_bitCount_0f7a4_42 : decode cJ6_bitCount_0f7a4 42 = .ok (.iload_n 0, 1) := by decide +kernel
theorem dJ6_bitCount_0f7a4_43 : decode cJ6_bitCount_0f7a4 43 = .ok (.bipush 16, 2) := by decide +kernel
theorem dJ6_bitCount_0f7a4_45 : decode cJ6_bitCount_0f7a4 45 = .ok (.iushr, 1) := by decide +kernel
theorem dJ6_bitCount_0f7a4_46 : decode cJ6_bitCount_0f7a4 46 = .ok (.iadd, 1) := by decide +kernel
theorem dJ6_bitCount_0f7a4_47 : decode cJ6_bitCount_0f7a4 47 = .ok (.istore_n 0, 1) := by decide +kernel
theorem dJ6_bitCount_0f7a4_48 : decode cJ6_bitCount_0f7a4 48 = .ok (.iload_n 0, 1) := by decide +kernel
theorem dJ6_bitCount_0f7a4_49 : decode cJ6_bitCount_0f7a4 49 = .ok (.bipush 63, 2) := by decide +kernel
theorem dJ6_bitCount_0f7a4_51 : decode cJ6_bitCount_0f7a4 51 = .ok (.iand, 1) := by decide +kernel
theorem dJ6_bitCount_0f7a4_52 : decode cJ6_bitCount_0f7a4 52 = .ok (.ireturn, 1) := by decide +kernel
theorem dJ13_bitCount_95d88_0 : decode cJ13_bitCount_95d88 0 = .ok (.lload_n 0, 1) := by decide +kernel
theorem dJ13_bitCount_95d88_1 : decode cJ13_bitCount_95d88 1 = .ok (.lload_n 0, 1) := by decide +kernel
theorem dJ13_bitCount_95d88_2 : decode cJ13_bitCount_95d88 2 = .ok (.iconst 1, 1) := by decide +kernel
theorem dJ13_bitCount_95d88_3 : decode cJ13_bitCount_95d88 3 = .ok (.lushr, 1) := by decide +kernel
theorem dJ13_bitCount_95d88_4 : decode cJ13_bitCount_95d88 4 = .ok (.ldc2_w 314, 3) := by decide +kernel
theorem dJ13_bitCount_95d88_7 : decode cJ13_bitCount_95d88 7 = .ok (.land, 1) := by decide +kernel
theorem dJ13_bitCount_95d88_8 : decode cJ13_bitCount_95d88 8 = .ok (.lsub, 1) := by decide +kernel
theorem dJ13_bitCount_95d88_9 : decode cJ13_bitCount_95d88 9 = .ok (.lstore_n 0, 1) := by decide +kernel
theorem dJ13_bitCount_95d88_10 : decode cJ13_bitCount_95d88 10 = .ok (.lload_n 0, 1) := by decide +kernel
theorem dJ13_bitCount_95d88_11 : decode cJ13_bitCount_95d88 11 = .ok (.ldc2_w 316, 3) := by decide +kernel
theorem dJ13_bitCount_95d88_14 : decode cJ13_bitCount_95d88 14 = .ok (.land, 1) := by decide +kernel
theorem dJ13_bitCount_95d88_15 : decode cJ13_bitCount_95d88 15 = .ok (.lload_n 0, 1) := by decide +kernel
theorem dJ13_bitCount_95d88_16 : decode cJ13_bitCount_95d88 16 = .ok (.iconst 2, 1) := by decide +kernel
theorem dJ13_bitCount_95d88_17 : decode cJ13_bitCount_95d88 17 = .ok (.lushr, 1) := by decide +kernel
theorem dJ13_bitCount_95d88_18 : decode cJ13_bitCount_95d88 18 = .ok (.ldc2_w 316, 3) := by decide +kernel
theorem dJ13_bitCount_95d88_21 : decode cJ13_bitCount_95d88 21 = .ok (.land, 1) := by decide +kernel
theorem dJ13_bitCount_95d88_22 : decode cJ13_bitCount_95d88 22 = .ok (.ladd, 1) := by decide +kernel
theorem dJ13_bitCount_95d88_23 : decode cJ13_bitCount_95d88 23 = .ok (.lstore_n 0, 1) := by decide +kernel
theorem dJ13_bitCount_95d88_24 : decode cJ13_bitCount_95d88 24 = .ok (.lload_n 0, 1) := by decide +kernel
theorem dJ13_bitCount_95d88_25 : decode cJ13_bitCount_95d88 25 = .ok (.lload_n 0, 1) := by decide +kernel
theorem dJ13_bitCount_95d88_26 : decode cJ13_bitCount_95d88 26 = .ok (.iconst 4, 1) := by decide +kernel
theorem dJ13_bitCount_95d88_27 : decode cJ13_bitCount_95d88 27 = .ok (.lushr, 1) := by decide +kernel
theorem dJ13_bitCount_95d88_28 : decode cJ13_bitCount_95d88 28 = .ok (.ladd, 1) := by decide +kernel
theorem dJ13_bitCount_95d88_29 : decode cJ13_bitCount_95d88 29 = .ok (.ldc2_w 318, 3) := by decide +kernel
theorem dJ13_bitCount_95d88_32 : decode cJ13_bitCount_95d88 32 = .ok (.land, 1) := by decide +kernel
theorem dJ13_bitCount_95d88_33 : decode cJ13_bitCount_95d88 33 = .ok (.lstore_n 0, 1) := by decide +kernel
theorem dJ13_bitCount_95d88_34 : decode cJ13_bitCount_95d88 34 = .ok (.lload_n 0, 1) := by decide +kernel
theorem dJ13_bitCount_95d88_35 : decode cJ13_bitCount_95d88 35 = .ok (.lload_n 0, 1) := by decide +kernel
theorem dJ13_bitCount_95d88_36 : decode cJ13_bitCount_95d88 36 = .ok (.bipush 8, 2) := by decide +kernel
theorem dJ13_bitCount_95d88_38 : decode cJ13_bitCount_95d88 38 = .ok (.lushr, 1) := by decide +kernel
theorem dJ13_bitCount_95d88_39 : decode cJ13_bitCount_95d88 39 = .ok (.ladd, 1) := by decide +kernel
theorem dJ13_bitCount_95d88_40 : decode cJ13_bitCount_95d88 40 = .ok (.lstore_n 0, 1) := by decide +kernel
theorem dJ13_bitCount_95d88_41 : decode cJ13_bitCount_95d88 41 = .ok (.lload_n 0, 1) := by decide +kernel
theorem dJ13_bitCount_95d88_42 : decode cJ13_bitCount_95d88 42 = .ok (.lload_n 0, 1) := by decide +kernel
theorem dJ13_bitCount_95d88_43 : decode cJ13_bitCount_95d88 43 = .ok (.bipush 16, 2) := by decide +kernel
theorem dJ13_bitCount_95d88_45 : decode cJ13_bitCount_95d88 45 = .ok (.lushr, 1) := by decide +kernel
theorem dJ13_bitCount_95d88_46 : decode cJ13_bitCount_95d88 46 = .ok (.ladd, 1) := by decide +kernel
theorem dJ13_bitCount_95d88_47 : decode cJ13_bitCount_95d88 47 = .ok (.lstore_n 0, 1) := by decide +kernel
theorem dJ13_bitCount_95d88_48 : decode cJ13_bitCount_95d88 48 = .ok (.lload_n 0, 1) := by decide +kernel
theorem dJ13_bitCount_95d88_49 : decode cJ13_bitCount_95d88 49 = .ok (.lload_n 0, 1) := by decide +kernel
theorem dJ13_bitCount_95d88_50 : decode cJ13_bitCount_95d88 50 = .ok (.bipush 32, 2) := by decide +kernel
theorem dJ13_bitCount_95d88_52 : decode cJ13_bitCount_95d88 52 = .ok (.lushr, 1) := by decide +kernel
theorem dJ13_bitCount_95d88_53 : decode cJ13_bitCount_95d88 53 = .ok (.ladd, 1) := by decide +kernel
theorem dJ13_bitCount_95d88_54 : decode cJ13_bitCount_95d88 54 = .ok (.lstore_n 0, 1) := by decide +kernel
theorem dJ13_bitCount_95d88_55 : decode cJ13_bitCount_95d88 55 = .ok (.lload_n 0, 1) := by decide +kernel
theorem dJ13_bitCount_95d88_56 : decode cJ13_bitCount_95d88 56 = .ok (.l2i, 1) := by decide +kernel
theorem dJ13_bitCount_95d88_57 : decode cJ13_bitCount_95d88 57 = .ok (.bipush 127, 2) := by decide +kernel
theorem dJ13_bitCount_95d88_59 : decode cJ13_bitCount_95d88 59 = .ok (.iand, 1) := by decide +kernel
theorem dJ13_bitCount_95d88_60 : decode cJ13_bitCount_95d88 60 = .ok (.ireturn, 1) := by decide +kernel
theorem dJ9_floorMod_7cf53_0 : decode cJ9_floorMod_7cf53 0 = .ok (.iload_n 0, 1) := by decide +kernel
theorem dJ9_floorMod_7cf53_1 : decode cJ9_floorMod_7cf53 1 = .ok (.iload_n 1, 1) := by decide +kernel
theorem dJ9_floorMod_7cf53_2 : decode cJ9_floorMod_7cf53 2 = .ok (.irem, 1) := by decide +kernel
theorem dJ9_floorMod_7cf53_3 : decode cJ9_floorMod_7cf53 3 = .ok (.istore_n 2, 1) := by decide +kernel
theorem dJ9_floorMod_7cf53_4 : decode cJ9_floorMod_7cf53 4 = .ok (.iload_n 0, 1) := by decide +kernel
theorem dJ9_floorMod_7cf53_5 : decode cJ9_floorMod_7cf53 5 = .ok (.iload_n 1, 1) := by decide +kernel
theorem dJ9_floorMod_7cf53_6 : decode cJ9_floorMod_7cf53 6 = .ok (.ixor, 1) := by decide +kernel
theorem dJ9_floorMod_7cf53_7 : decode cJ9_floorMod_7cf53 7 = .ok (.ifCond .ge 11, 3) := by decide +kernel
theorem dJ9_floorMod_7cf53_10 : decode cJ9_floorMod_7cf53 10 = .ok (.iload_n 2, 1) := by decide +kernel
theorem dJ9_floorMod_7cf53_11 : decode cJ9_floorMod_7cf53 11 = .ok (.ifCond .eq 7, 3) := by decide +kernel
theorem dJ9_floorMod_7cf53_14 : decode cJ9_floorMod_7cf53 14 = .ok (.iload_n 2, 1) := by decide +kernel
theorem dJ9_floorMod_7cf53_15 : decode cJ9_floorMod_7cf53 15 = .ok (.iload_n 1, 1) := by decide +kernel
theorem dJ9_floorMod_7cf53_16 : decode cJ9_floorMod_7cf53 16 = .ok (.iadd, 1) := by decide +kernel
theorem dJ9_floorMod_7cf53_17 : decode cJ9_floorMod_7cf53 17 = .ok (.ireturn, 1) := by decide +kernel
theorem dJ9_floorMod_7cf53_18 : decode cJ9_floorMod_7cf53 18 = .ok (.iload_n 2, 1) := by decide +kernel
theorem dJ9_floorMod_7cf53_19 : decode cJ9_floorMod_7cf53 19 = .ok (.ireturn, 1) := by decide +kernel
theorem dJ9_max_7cf53_0 : decode cJ9_max_7cf53 0 = .ok (.iload_n 0, 1) := by decide +kernel
theorem dJ9_max_7cf53_1 : decode cJ9_max_7cf53 1 = .ok (.iload_n 1, 1) := by decide +kernel
theorem dJ9_max_7cf53_2 : decode cJ9_max_7cf53 2 = .ok (.if_icmp .lt 7, 3) := by decide +kernel
theorem dJ9_max_7cf53_5 : decode cJ9_max_7cf53 5 = .ok (.iload_n 0, 1) := by decide +kernel
theorem dJ9_max_7cf53_6 : decode cJ9_max_7cf53 6 = .ok (.goto 4, 3) := by decide +kernel
theorem dJ9_max_7cf53_9 : decode cJ9_max_7cf53 9 = .ok (.iload_n 1, 1) := by decide +kernel
theorem dJ9_max_7cf53_10 : decode cJ9_max_7cf53 10 = .ok (.ireturn, 1) := by decide +kernel
theorem dJ9_min_7cf53_0 : decode cJ9_min_7cf53 0 = .ok (.iload_n 0, 1) := by decide +kernel
theorem dJ9_min_7cf53_1 : decode cJ9_min_7cf53 1 = .ok (.iload_n 1, 1) := by decide +kernel
theorem dJ9_min_7cf53_2 : decode cJ9_min_7cf53 2 = .ok (.if_icmp .gt 7, 3) := by decide +kernel
theorem dJ9_min_7cf53_5 : decode cJ9_min_7cf53 5 = .ok (.iload_n 0, 1) := by decide +kernel
theorem dJ9_min_7cf53_6 : decode cJ9_min_7cf53 6 = .ok (.goto 4, 3) := by decide +kernel
theorem dJ9_min_7cf53_9 : decode cJ9_min_7cf53 9 = .ok (.iload_n 1, 1) := by decide +kernel
theorem dJ9_min_7cf53_10 : decode cJ9_min_7cf53 10 = .ok (.ireturn, 1) := by decide +kernel
theorem dJ0_length_8abf5_0 : decode cJ0_length_8abf5 0 = .ok (.aload_n 0, 1) := by decide +kernel
theorem dJ0_length_8abf5_1 : decode cJ0_length_8abf5 1 = .ok (.getfield 9, 3) := by decide +kernel
theorem dJ0_length_8abf5_4 : decode cJ0_length_8abf5 4 = .ok (.arraylength, 1) := by decide +kernel
theorem dJ0_length_8abf5_5 : decode cJ0_length_8abf5 5 = .ok (.aload_n 0, 1) := by decide +kernel
theorem dJ0_length_8abf5_6 : decode cJ0_length_8abf5 6 = .ok (.invokevirtual 335, 3) := by decide +kernel
theorem dJ0_length_8abf5_9 : decode cJ0_length_8abf5 9 = .ok (.ishr, 1) := by decide +kernel
theorem dJ0_length_8abf5_10 : decode cJ0_length_8abf5 10 = .ok (.ireturn, 1) := by decide +kernel
theorem dJ0_charAt_5068e_0 : decode cJ0_charAt_5068e 0 = .ok (.aload_n 0, 1) := by decide +kernel
theorem dJ0_charAt_5068e_1 : decode cJ0_charAt_5068e 1 = .ok (.invokevirtual 492, 3) := by decide +kernel
theorem dJ0_charAt_5068e_4 : decode cJ0_charAt_5068e 4 = .ok (.ifCond .eq 12, 3) := by decide +kernel
theorem dJ0_charAt_5068e_7 : decode cJ0_charAt_5068e 7 = .ok (.aload_n 0, 1) := by decide +kernel
theorem dJ0_charAt_5068e_8 : decode cJ0_charAt_5068e 8 = .ok (.getfield 9, 3) := by decide +kernel
theorem dJ0_charAt_5068e_11 : decode cJ0_charAt_5068e 11 = .ok (.iload_n 1, 1) := by decide +kernel
theorem dJ0_charAt_5068e_12 : decode cJ0_charAt_5068e 12 = .ok (.invokestatic 495, 3) := by decide +kernel
theorem dJ0_charAt_5068e_15 : decode cJ0_charAt_5068e 15 = .ok (.ireturn, 1) := by decide +kernel
theorem dJ0_charAt_5068e_16 : decode cJ0_charAt_5068e 16 = .ok (.aload_n 0, 1) := by decide +kernel
theorem dJ0_charAt_5068e_17 : decode cJ0_charAt_5068e 17 = .ok (.getfield 9, 3) := by decide +kernel
theorem dJ0_charAt_5068e_20 : decode cJ0_charAt_5068e 20 = .ok (.iload_n 1, 1) := by decide +kernel
theorem dJ0_charAt_5068e_21 : decode cJ0_charAt_5068e 21 = .ok (.invokestatic 498, 3) := by decide +kernel
theorem dJ0_charAt_5068e_24 : decode cJ0_charAt_5068e 24 = .ok (.ireturn, 1) := by decide +kernel
theorem dJ0_coder_7d493_0 : decode cJ0_coder_7d493 0 = .ok (.getstatic 38, 3) := by decide +kernel
theorem dJ0_coder_7d493_3 : decode cJ0_coder_7d493 3 = .ok (.ifCond .eq 10, 3) := by decide +kernel
theorem dJ0_coder_7d493_6 : decode cJ0_coder_7d493 6 = .ok (.aload_n 0, 1) := by decide +kernel
theorem dJ0_coder_7d493_7 : decode cJ0_coder_7d493 7 = .ok (.getfield 15, 3) := by decide +kernel
theorem dJ0_coder_7d493_10 : decode cJ0_coder_7d493 10 = .ok (.goto 4, 3) := by decide +kernel
theorem dJ0_coder_7d493_13 : decode cJ0_coder_7d493 13 = .ok (.iconst 1, 1) := by decide +kernel
theorem dJ0_coder_7d493_14 : decode cJ0_coder_7d493 14 = .ok (.ireturn, 1) := by decide +kernel
theorem dJ0_isLatin1_aae02_0 : decode cJ0_isLatin1_aae02 0 = .ok (.getstatic 38, 3) := by decide +kernel
theorem dJ0_isLatin1_aae02_3 : decode cJ0_isLatin1_aae02 3 = .ok (.ifCond .eq 14, 3) := by decide +kernel
theorem dJ0_isLatin1_aae02_6 : decode cJ0_isLatin1_aae02 6 = .ok (.aload_n 0, 1) := by decide +kernel
theorem dJ0_isLatin1_aae02_7 : decode cJ0_isLatin1_aae02 7 = .ok (.getfield 15, 3) := by decide +kernel
theorem dJ0_isLatin1_aae02_10 : decode cJ0_isLatin1_aae02 10 = .ok (.ifCond .ne 7, 3) := by decide +kernel
theorem dJ0_isLatin1_aae02_13 : decode cJ0_isLatin1_aae02 13 = .ok (.iconst 1, 1) := by decide +kernel
theorem dJ0_isLatin1_aae02_14 : decode cJ0_isLatin1_aae02 14 = .ok (.goto 4, 3) := by decide +kernel
theorem dJ0_isLatin1_aae02_17 : decode cJ0_isLatin1_aae02 17 = .ok (.iconst 0, 1) := by decide +kernel
theorem dJ0_isLatin1_aae02_18 : decode cJ0_isLatin1_aae02 18 = .ok (.ireturn, 1) := by decide +kernel
theorem dJ0_checkIndex_df160_0 : decode cJ0_checkIndex_df160 0 = .ok (.iload_n 0, 1) := by decide +kernel
theorem dJ0_checkIndex_df160_1 : decode cJ0_checkIndex_df160 1 = .ok (.iload_n 1, 1) := by decide +kernel
theorem dJ0_checkIndex_df160_2 : decode cJ0_checkIndex_df160 2 = .ok (.getstatic 1053, 3) := by decide +kernel
theorem dJ0_checkIndex_df160_5 : decode cJ0_checkIndex_df160 5 = .ok (.invokestatic 1059, 3) := by decide +kernel
theorem dJ0_checkIndex_df160_8 : decode cJ0_checkIndex_df160 8 = .ok (.pop, 1) := by decide +kernel
theorem dJ0_checkIndex_df160_9 : decode cJ0_checkIndex_df160 9 = .ok (.return_, 1) := by decide +kernel
theorem dJ1_charAt_3b067_0 : decode cJ1_charAt_3b067 0 = .ok (.iload_n 1, 1) := by decide +kernel
theorem dJ1_charAt_3b067_1 : decode cJ1_charAt_3b067 1 = .ok (.aload_n 0, 1) := by decide +kernel
theorem dJ1_charAt_3b067_2 : decode cJ1_charAt_3b067 2 = .ok (.arraylength, 1) := by decide +kernel
theorem dJ1_charAt_3b067_3 : decode cJ1_charAt_3b067 3 = .ok (.invokestatic 9, 3) := by decide +kernel
theorem dJ1_charAt_3b067_6 : decode cJ1_charAt_3b067 6 = .ok (.aload_n 0, 1) := by decide +kernel
theorem dJ1_charAt_3b067_7 : decode cJ1_charAt_3b067 7 = .ok (.iload_n 1, 1) := by decide +kernel
theorem dJ1_charAt_3b067_8 : decode cJ1_charAt_3b067 8 = .ok (.baload, 1) := by decide +kernel
theorem dJ1_charAt_3b067_9 : decode cJ1_charAt_3b067 9 = .ok (.sipush 255, 3) := by decide +kernel
theorem dJ1_charAt_3b067_12 : decode cJ1_charAt_3b067 12 = .ok (.iand, 1) := by decide +kernel
theorem dJ1_charAt_3b067_13 : decode cJ1_charAt_3b067 13 = .ok (.i2c, 1) := by decide +kernel
theorem dJ1_charAt_3b067_14 : decode cJ1_charAt_3b067 14 = .ok (.ireturn, 1) := by decide +kernel
theorem dJ2_getChar_3b067_0 : decode cJ2_getChar_3b067 0 = .ok (.getstatic 44, 3) := by decide +kernel
theorem dJ2_getChar_3b067_3 : decode cJ2_getChar_3b067 3 = .ok (.ifCond .ne 25, 3) := by decide +kernel
theorem dJ2_getChar_3b067_6 : decode cJ2_getChar_3b067 6 = .ok (.iload_n 1, 1) := by decide +kernel
theorem dJ2_getChar_3b067_7 : decode cJ2_getChar_3b067 7 = .ok (.ifCond .lt 11, 3) := by decide +kernel
theorem dJ2_getChar_3b067_10 : decode cJ2_getChar_3b067 10 = .ok (.iload_n 1, 1) := by decide +kernel
theorem dJ2_getChar_3b067_11 : decode cJ2_getChar_3b067 11 = .ok (.aload_n 0, 1) := by decide +kernel
theorem dJ2_getChar_3b067_12 : decode cJ2_getChar_3b067 12 = .ok (.invokestatic 48, 3) := by decide +kernel
theorem dJ2_getChar_3b067_15 : decode cJ2_getChar_3b067 15 = .ok (.if_icmp .lt 13, 3) := by decide +kernel
theorem dJ2_getChar_3b067_18 : decode cJ2_getChar_3b067 18 = .ok (.new 52, 3) := by decide +kernel
theorem dJ2_getChar_3b067_21 : decode cJ2_getChar_3b067 21 = .ok (.dup, 1) := by decide +kernel
theorem dJ2_getChar_3b067_22 : decode cJ2_getChar_3b067 22 = .ok (.ldc 54, 2) := by decide +kernel
theorem dJ2_getChar_3b067_24 : decode cJ2_getChar_3b067 24 = .ok (.invokespecial 56, 3) := by decide +kernel
theorem dJ2_getChar_3b067_27 : decode cJ2_getChar_3b067 27 = .ok (.athrow, 1) := by decide +kernel
theorem dJ2_getChar_3b067_28 : decode cJ2_getChar_3b067 28 = .ok (.iload_n 1, 1) := by decide +kernel
theorem dJ2_getChar_3b067_29 : decode cJ2_getChar_3b067 29 = .ok (.iconst 1, 1) := by decide +kernel
theorem dJ2_getChar_3b067_30 : decode cJ2_getChar_3b067 30 = .ok (.ishl, 1) := by decide +kernel
theorem dJ2_getChar_3b067_31 : decode cJ2_getChar_3b067 31 = .ok (.istore_n 1, 1) := by decide +kernel
theorem dJ2_getChar_3b067_32 : decode cJ2_getChar_3b067 32 = .ok (.aload_n 0, 1) := by decide +kernel
theorem dJ2_getChar_3b067_33 : decode cJ2_getChar_3b067 33 = .ok (.iload_n 1, 1) := by decide +kernel
theorem dJ2_getChar_3b067_34 : decode cJ2_getChar_3b067 34 = .ok (.iinc 1 1, 3) := by decide +kernel
theorem dJ2_getChar_3b067_37 : decode cJ2_getChar_3b067 37 = .ok (.baload, 1) := by decide +kernel
theorem dJ2_getChar_3b067_38 : decode cJ2_getChar_3b067 38 = .ok (.sipush 255, 3) := by decide +kernel
theorem dJ2_getChar_3b067_41 : decode cJ2_getChar_3b067 41 = .ok (.iand, 1) := by decide +kernel
theorem dJ2_getChar_3b067_42 : decode cJ2_getChar_3b067 42 = .ok (.getstatic 59, 3) := by decide +kernel
theorem dJ2_getChar_3b067_45 : decode cJ2_getChar_3b067 45 = .ok (.ishl, 1) := by decide +kernel
theorem dJ2_getChar_3b067_46 : decode cJ2_getChar_3b067 46 = .ok (.aload_n 0, 1) := by decide +kernel
theorem dJ2_getChar_3b067_47 : decode cJ2_getChar_3b067 47 = .ok (.iload_n 1, 1) := by decide +kernel
theorem dJ2_getChar_3b067_48 : decode cJ2_getChar_3b067 48 = .ok (.baload, 1) := by decide +kernel
theorem dJ2_getChar_3b067_49 : decode cJ2_getChar_3b067 49 = .ok (.sipush 255, 3) := by decide +kernel
theorem dJ2_getChar_3b067_52 : decode cJ2_getChar_3b067 52 = .ok (.iand, 1) := by decide +kernel
theorem dJ2_getChar_3b067_53 : decode cJ2_getChar_3b067 53 = .ok (.getstatic 63, 3) := by decide +kernel
theorem dJ2_getChar_3b067_56 : decode cJ2_getChar_3b067 56 = .ok (.ishl, 1) := by decide +kernel
theorem dJ2_getChar_3b067_57 : decode cJ2_getChar_3b067 57 = .ok (.ior, 1) := by decide +kernel
theorem dJ2_getChar_3b067_58 : decode cJ2_getChar_3b067 58 = .ok (.i2c, 1) := by decide +kernel
theorem dJ2_getChar_3b067_59 : decode cJ2_getChar_3b067 59 = .ok (.ireturn, 1) := by decide +kernel
theorem dJ2_length_9d52b_0 : decode cJ2_length_9d52b 0 = .ok (.aload_n 0, 1) := by decide +kernel
theorem dJ2_length_9d52b_1 : decode cJ2_length_9d52b 1 = .ok (.arraylength, 1) := by decide +kernel
theorem dJ2_length_9d52b_2 : decode cJ2_length_9d52b 2 = .ok (.iconst 1, 1) := by decide +kernel
theorem dJ2_length_9d52b_3 : decode cJ2_length_9d52b 3 = .ok (.ishr, 1) := by decide +kernel
theorem dJ2_length_9d52b_4 : decode cJ2_length_9d52b 4 = .ok (.ireturn, 1) := by decide +kernel
theorem dJ2_charAt_3b067_0 : decode cJ2_charAt_3b067 0 = .ok (.iload_n 1, 1) := by decide +kernel
theorem dJ2_charAt_3b067_1 : decode cJ2_charAt_3b067 1 = .ok (.aload_n 0, 1) := by decide +kernel
theorem dJ2_charAt_3b067_2 : decode cJ2_charAt_3b067 2 = .ok (.invokestatic 67, 3) := by decide +kernel
theorem dJ2_charAt_3b067_5 : decode cJ2_charAt_3b067 5 = .ok (.aload_n 0, 1) := by decide +kernel
theorem dJ2_charAt_3b067_6 : decode cJ2_charAt_3b067 6 = .ok (.iload_n 1, 1) := by decide +kernel
theorem dJ2_charAt_3b067_7 : decode cJ2_charAt_3b067 7 = .ok (.invokestatic 71, 3) := by decide +kernel
theorem dJ2_charAt_3b067_10 : decode cJ2_charAt_3b067 10 = .ok (.ireturn, 1) := by decide +kernel
theorem dJ2_checkIndex_2214a_0 : decode cJ2_checkIndex_2214a 0 = .ok (.iload_n 0, 1) := by decide +kernel
theorem dJ2_checkIndex_2214a_1 : decode cJ2_checkIndex_2214a 1 = .ok (.aload_n 1, 1) := by decide +kernel
theorem dJ2_checkIndex_2214a_2 : decode cJ2_checkIndex_2214a 2 = .ok (.invokestatic 48, 3) := by decide +kernel
theorem dJ2_checkIndex_2214a_5 : decode cJ2_checkIndex_2214a 5 = .ok (.invokestatic 414, 3) := by decide +kernel
theorem dJ2_checkIndex_2214a_8 : decode cJ2_checkIndex_2214a 8 = .ok (.return_, 1) := by decide +kernel
theorem dJ7_fill_53178_0 : decode cJ7_fill_53178 0 = .ok (.iconst 0, 1) := by decide +kernel
theorem dJ7_fill_53178_1 : decode cJ7_fill_53178 1 = .ok (.istore_n 2, 1) := by decide +kernel
theorem dJ7_fill_53178_2 : decode cJ7_fill_53178 2 = .ok (.aload_n 0, 1) := by decide +kernel
theorem dJ7_fill_53178_3 : decode cJ7_fill_53178 3 = .ok (.arraylength, 1) := by decide +kernel
theorem dJ7_fill_53178_4 : decode cJ7_fill_53178 4 = .ok (.istore_n 3, 1) := by decide +kernel
theorem dJ7_fill_53178_5 : decode cJ7_fill_53178 5 = .ok (.iload_n 2, 1) := by decide +kernel
theorem dJ7_fill_53178_6 : decode cJ7_fill_53178 6 = .ok (.iload_n 3, 1) := by decide +kernel
theorem dJ7_fill_53178_7 : decode cJ7_fill_53178 7 = .ok (.if_icmp .ge 13, 3) := by decide +kernel
theorem dJ7_fill_53178_10 : decode cJ7_fill_53178 10 = .ok (.aload_n 0, 1) := by decide +kernel
theorem dJ7_fill_53178_11 : decode cJ7_fill_53178 11 = .ok (.iload_n 2, 1) := by decide +kernel
theorem dJ7_fill_53178_12 : decode cJ7_fill_53178 12 = .ok (.iload_n 1, 1) := by decide +kernel
theorem dJ7_fill_53178_13 : decode cJ7_fill_53178 13 = .ok (.iastore, 1) := by decide +kernel
theorem dJ7_fill_53178_14 : decode cJ7_fill_53178 14 = .ok (.iinc 2 1, 3) := by decide +kernel
theorem dJ7_fill_53178_17 : decode cJ7_fill_53178 17 = .ok (.goto (-12), 3) := by decide +kernel
theorem dJ7_fill_53178_20 : decode cJ7_fill_53178 20 = .ok (.return_, 1) := by decide +kernel
theorem dJ3_checkIndex_8e157_0 : decode cJ3_checkIndex_8e157 0 = .ok (.iload_n 0, 1) := by decide +kernel
theorem dJ3_checkIndex_8e157_1 : decode cJ3_checkIndex_8e157 1 = .ok (.ifCond .lt 8, 3) := by decide +kernel
theorem dJ3_checkIndex_8e157_4 : decode cJ3_checkIndex_8e157 4 = .ok (.iload_n 0, 1) := by decide +kernel
theorem dJ3_checkIndex_8e157_5 : decode cJ3_checkIndex_8e157 5 = .ok (.iload_n 1, 1) := by decide +kernel
theorem dJ3_checkIndex_8e157_6 : decode cJ3_checkIndex_8e157 6 = .ok (.if_icmp .lt 10, 3) := by decide +kernel
theorem dJ3_checkIndex_8e157_9 : decode cJ3_checkIndex_8e157 9 = .ok (.aload_n 2, 1) := by decide +kernel
theorem dJ3_checkIndex_8e157_10 : decode cJ3_checkIndex_8e157 10 = .ok (.iload_n 0, 1) := by decide +kernel
theorem dJ3_checkIndex_8e157_11 : decode cJ3_checkIndex_8e157 11 = .ok (.iload_n 1, 1) := by decide +kernel
theorem dJ3_checkIndex_8e157_12 : decode cJ3_checkIndex_8e157 12 = .ok (.invokestatic 95, 3) := by decide +kernel
theorem dJ3_checkIndex_8e157_15 : decode cJ3_checkIndex_8e157 15 = .ok (.athrow, 1) := by decide +kernel
theorem dJ3_checkIndex_8e157_16 : decode cJ3_checkIndex_8e157 16 = .ok (.iload_n 0, 1) := by decide +kernel
theorem dJ3_checkIndex_8e157_17 : decode cJ3_checkIndex_8e157 17 = .ok (.ireturn, 1) := by decide +kernel
