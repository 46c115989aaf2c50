theorem dX8_init_0 : decode cX8_init 0 = .ok (.aload_n 0, 1) := by decide +kernel
theorem dX8_init_1 : decode cX8_init 1 = .ok (.invokespecial 1, 3) := by decide +kernel
theorem dX8_init_4 : decode cX8_init 4 = .ok (.aload_n 0, 1) := by decide +kernel
theorem dX8_init_5 : decode cX8_init 5 = .ok (.iconst 2, 1) := by decide +kernel
theorem dX8_init_6 : decode cX8_init 6 = .ok (.putfield 7, 3) := by decide +kernel
theorem dX8_init_9 : decode cX8_init 9 = .ok (.aload_n 0, 1) := by decide +kernel
theorem dX8_init_10 : decode cX8_init 10 = .ok (.bipush 24, 2) := by decide +kernel
theorem dX8_init_12 : decode cX8_init 12 = .ok (.newarray .int, 2) := by decide +kernel
theorem dX8_init_14 : decode cX8_init 14 = .ok (.putfield 13, 3) := by decide +kernel
theorem dX8_init_17 : decode cX8_init 17 = .ok (.aload_n 0, 1) := by decide +kernel
theorem dX8_init_18 : decode cX8_init 18 = .ok (.bipush 24, 2) := by decide +kernel
theorem dX8_init_20 : decode cX8_init 20 = .ok (.newarray .int, 2) := by decide +kernel
theorem dX8_init_22 : decode cX8_init 22 = .ok (.putfield 17, 3) := by decide +kernel
theorem dX8_init_25 : decode cX8_init 25 = .ok (.aload_n 0, 1) := by decide +kernel
theorem dX8_init_26 : decode cX8_init 26 = .ok (.bipush 24, 2) := by decide +kernel
theorem dX8_init_28 : decode cX8_init 28 = .ok (.newarray .int, 2) := by decide +kernel
theorem dX8_init_30 : decode cX8_init 30 = .ok (.putfield 20, 3) := by decide +kernel
theorem dX8_init_33 : decode cX8_init 33 = .ok (.aload_n 0, 1) := by decide +kernel
theorem dX8_init_34 : decode cX8_init 34 = .ok (.bipush 24, 2) := by decide +kernel
theorem dX8_init_36 : decode cX8_init 36 = .ok (.newarray .boolean, 2) := by decide +kernel
theorem dX8_init_38 : decode cX8_init 38 = .ok (.putfield 23, 3) := by decide +kernel
theorem dX8_init_41 : decode cX8_init 41 = .ok (.aload_n 0, 1) := by decide +kernel
theorem dX8_init_42 : decode cX8_init 42 = .ok (.bipush 10, 2) := by decide +kernel
theorem dX8_init_44 : decode cX8_init 44 = .ok (.newarray .boolean, 2) := by decide +kernel
theorem dX8_init_46 : decode cX8_init 46 = .ok (.putfield 27, 3) := by decide +kernel
theorem dX8_init_49 : decode cX8_init 49 = .ok (.aload_n 0, 1) := by decide +kernel
theorem dX8_init_50 : decode cX8_init 50 = .ok (.sipush 576, 3) := by decide +kernel
theorem dX8_init_53 : decode cX8_init 53 = .ok (.newarray .boolean, 2) := by decide +kernel
theorem dX8_init_55 : decode cX8_init 55 = .ok (.putfield 30, 3) := by decide +kernel
theorem dX8_init_58 : decode cX8_init 58 = .ok (.aload_n 0, 1) := by decide +kernel
theorem dX8_init_59 : decode cX8_init 59 = .ok (.bipush 10, 2) := by decide +kernel
theorem dX8_init_61 : decode cX8_init 61 = .ok (.newarray .int, 2) := by decide +kernel
theorem dX8_init_63 : decode cX8_init 63 = .ok (.putfield 33, 3) := by decide +kernel
theorem dX8_init_66 : decode cX8_init 66 = .ok (.aload_n 0, 1) := by decide +kernel
theorem dX8_init_67 : decode cX8_init 67 = .ok (.bipush 10, 2) := by decide +kernel
theorem dX8_init_69 : decode cX8_init 69 = .ok (.newarray .int, 2) := by decide +kernel
theorem dX8_init_71 : decode cX8_init 71 = .ok (.putfield 36, 3) := by decide +kernel
theorem dX8_init_74 : decode cX8_init 74 = .ok (.aload_n 0, 1) := by decide +kernel
theorem dX8_init_75 : decode cX8_init 75 = .ok (.bipush 10, 2) := by decide +kernel
theorem dX8_init_77 : decode cX8_init 77 = .ok (.newarray .int, 2) := by decide +kernel
theorem dX8_init_79 : decode cX8_init 79 = .ok (.putfield 39, 3) := by decide +kernel
theorem dX8_init_82 : decode cX8_init 82 = .ok (.aload_n 0, 1) := by decide +kernel
theorem dX8_init_83 : decode cX8_init 83 = .ok (.bipush 10, 2) := by decide +kernel
theorem dX8_init_85 : decode cX8_init 85 = .ok (.newarray .int, 2) := by decide +kernel
theorem dX8_init_87 : decode cX8_init 87 = .ok (.putfield 42, 3) := by decide +kernel
theorem dX8_init_90 : decode cX8_init 90 = .ok (.aload_n 0, 1) := by decide +kernel
theorem dX8_init_91 : decode cX8_init 91 = .ok (.bipush 10, 2) := by decide +kernel
theorem dX8_init_93 : decode cX8_init 93 = .ok (.newarray .int, 2) := by decide +kernel
theorem dX8_init_95 : decode cX8_init 95 = .ok (.putfield 45, 3) := by decide +kernel
theorem dX8_init_98 : decode cX8_init 98 = .ok (.aload_n 0, 1) := by decide +kernel
theorem dX8_init_99 : decode cX8_init 99 = .ok (.bipush 10, 2) := by decide +kernel
theorem dX8_init_101 : decode cX8_init 101 = .ok (.newarray .int, 2) := by decide +kernel
theorem dX8_init_103 : decode cX8_init 103 = .ok (.putfield 48, 3) := by decide +kernel
theorem dX8_init_106 : decode cX8_init 106 = .ok (.aload_n 0, 1) := by decide +kernel
theorem dX8_init_107 : decode cX8_init 107 = .ok (.sipush 512, 3) := by decide +kernel
theorem dX8_init_110 : decode cX8_init 110 = .ok (.newarray .int, 2) := by decide +kernel
theorem dX8_init_112 : decode cX8_init 112 = .ok (.putfield 51, 3) := by decide +kernel
theorem dX8_init_115 : decode cX8_init 115 = .ok (.aload_n 0, 1) := by decide +kernel
theorem dX8_init_116 : decode cX8_init 116 = .ok (.sipush 500, 3) := by decide +kernel
theorem dX8_init_119 : decode cX8_init 119 = .ok (.newarray .int, 2) := by decide +kernel
theorem dX8_init_121 : decode cX8_init 121 = .ok (.putfield 54, 3) := by decide +kernel
theorem dX8_init_124 : decode cX8_init 124 = .ok (.aload_n 0, 1) := by decide +kernel
theorem dX8_init_125 : decode cX8_init 125 = .ok (.bipush 10, 2) := by decide +kernel
theorem dX8_init_127 : decode cX8_init 127 = .ok (.newarray .int, 2) := by decide +kernel
theorem dX8_init_129 : decode cX8_init 129 = .ok (.putfield 57, 3) := by decide +kernel
theorem dX8_init_132 : decode cX8_init 132 = .ok (.aload_n 0, 1) := by decide +kernel
theorem dX8_init_133 : decode cX8_init 133 = .ok (.sipush 1202, 3) := by decide +kernel
theorem dX8_init_136 : decode cX8_init 136 = .ok (.newarray .int, 2) := by decide +kernel
theorem dX8_init_138 : decode cX8_init 138 = .ok (.putfield 60, 3) := by decide +kernel
theorem dX8_init_141 : decode cX8_init 141 = .ok (.aload_n 0, 1) := by decide +kernel
theorem dX8_init_142 : decode cX8_init 142 = .ok (.sipush 1202, 3) := by decide +kernel
theorem dX8_init_145 : decode cX8_init 145 = .ok (.newarray .int, 2) := by decide +kernel
theorem dX8_init_147 : decode cX8_init 147 = .ok (.putfield 63, 3) := by decide +kernel
theorem dX8_init_150 : decode cX8_init 150 = .ok (.aload_n 0, 1) := by decide +kernel
theorem dX8_init_151 : decode cX8_init 151 = .ok (.bipush 68, 2) := by decide +kernel
theorem dX8_init_153 : decode cX8_init 153 = .ok (.newarray .int, 2) := by decide +kernel
theorem dX8_init_155 : decode cX8_init 155 = .ok (.putfield 66, 3) := by decide +kernel
theorem dX8_init_158 : decode cX8_init 158 = .ok (.aload_n 0, 1) := by decide +kernel
theorem dX8_init_159 : decode cX8_init 159 = .ok (.bipush 68, 2) := by decide +kernel
theorem dX8_init_161 : decode cX8_init 161 = .ok (.newarray .int, 2) := by decide +kernel
theorem dX8_init_163 : decode cX8_init 163 = .ok (.putfield 69, 3) := by decide +kernel
theorem dX8_init_166 : decode cX8_init 166 = .ok (.aload_n 0, 1) := by decide +kernel
theorem dX8_init_167 : decode cX8_init 167 = .ok (.bipush 68, 2) := by decide +kernel
theorem dX8_init_169 : decode cX8_init 169 = .ok (.newarray .int, 2) := by decide +kernel
theorem dX8_init_171 : decode cX8_init 171 = .ok (.putfield 72, 3) := by decide +kernel
theorem dX8_init_174 : decode cX8_init 174 = .ok (.aload_n 0, 1) := by decide +kernel
theorem dX8_init_175 : decode cX8_init 175 = .ok (.bipush 68, 2) := by decide +kernel
theorem dX8_init_177 : decode cX8_init 177 = .ok (.newarray .int, 2) := by decide +kernel
theorem dX8_init_179 : decode cX8_init 179 = .ok (.putfield 75, 3) := by decide +kernel
theorem dX8_init_182 : decode cX8_init 182 = .ok (.aload_n 0, 1) := by decide +kernel
theorem dX8_init_183 : decode cX8_init 183 = .ok (.bipush 20, 2) := by decide +kernel
theorem dX8_init_185 : decode cX8_init 185 = .ok (.newarray .int, 2) := by decide +kernel
theorem dX8_init_187 : decode cX8_init 187 = .ok (.putfield 78, 3) := by decide +kernel
theorem dX8_init_190 : decode cX8_init 190 = .ok (.aload_n 0, 1) := by decide +kernel
theorem dX8_init_191 : decode cX8_init 191 = .ok (.bipush 20, 2) := by decide +kernel
theorem dX8_init_193 : decode cX8_init 193 = .ok (.newarray .int, 2) := by decide +kernel
theorem dX8_init_195 : decode cX8_init 195 = .ok (.putfield 81, 3) := by decide +kernel
theorem dX8_init_198 : decode cX8_init 198 = .ok (.aload_n 0, 1) := by decide +kernel
theorem dX8_init_199 : decode cX8_init 199 = .ok (.bipush 24, 2) := by decide +kernel
theorem dX8_init_201 : decode cX8_init 201 = .ok (.newarray .int, 2) := by decide +kernel
theorem dX8_init_203 : decode cX8_init 203 = .ok (.putfield 84, 3) := by decide +kernel
theorem dX8_init_206 : decode cX8_init 206 = .ok (.aload_n 0, 1) := by decide +kernel
theorem dX8_init_207 : decode cX8_init 207 = .ok (.bipush 24, 2) := by decide +kernel
theorem dX8_init_209 : decode cX8_init 209 = .ok (.newarray .int, 2) := by decide +kernel
theorem dX8_init_211 : decode cX8_init 211 = .ok (.putfield 87, 3) := by decide +kernel
theorem dX8_init_214 : decode cX8_init 214 = .ok (.return_, 1) := by decide +kernel
theorem dX8_thrown_0 : decode cX8_thrown 0 = .ok (.aload_n 0, 1) := by decide +kernel
theorem dX8_thrown_1 : decode cX8_thrown 1 = .ok (.getfield 90, 3) := by decide +kernel
theorem dX8_thrown_4 : decode cX8_thrown 4 = .ok (.ireturn, 1) := by decide +kernel
theorem dX8_holds_0 : decode cX8_holds 0 = .ok (.aload_n 0, 1) := by decide +kernel
theorem dX8_holds_1 : decode cX8_holds 1 = .ok (.iload_n 1, 1) := by decide +kernel
theorem dX8_holds_2 : decode cX8_holds 2 = .ok (.putfield 90, 3) := by decide +kernel
theorem dX8_holds_5 : decode cX8_holds 5 = .ok (.iload_n 1, 1) := by decide +kernel
theorem dX8_holds_6 : decode cX8_holds 6 = .ok (.ifCond .ne 7, 3) := by decide +kernel
theorem dX8_holds_9 : decode cX8_holds 9 = .ok (.iconst 1, 1) := by decide +kernel
theorem dX8_holds_10 : decode cX8_holds 10 = .ok (.goto 4, 3) := by decide +kernel
theorem dX8_holds_13 : decode cX8_holds 13 = .ok (.iconst 0, 1) := by decide +kernel
theorem dX8_holds_14 : decode cX8_holds 14 = .ok (.ireturn, 1) := by decide +kernel
theorem dX8_in_0 : decode cX8_in 0 = .ok (.iload_n 0, 1) := by decide +kernel
theorem dX8_in_1 : decode cX8_in 1 = .ok (.iload_n 1, 1) := by decide +kernel
theorem dX8_in_2 : decode cX8_in 2 = .ok (.if_icmp .lt 12, 3) := by decide +kernel
theorem dX8_in_5 : decode cX8_in 5 = .ok (.iload_n 0, 1) := by decide +kernel
theorem dX8_in_6 : decode cX8_in 6 = .ok (.iload_n 2, 1) := by decide +kernel
theorem dX8_in_7 : decode cX8_in 7 = .ok (.if_icmp .gt 7, 3) := by decide +kernel
theorem dX8_in_10 : decode cX8_in 10 = .ok (.iconst 1, 1) := by decide +kernel
theorem dX8_in_11 : decode cX8_in 11 = .ok (.goto 4, 3) := by decide +kernel
theorem dX8_in_14 : decode cX8_in 14 = .ok (.iconst 0, 1) := by decide +kernel
theorem dX8_in_15 : decode cX8_in 15 = .ok (.ireturn, 1) := by decide +kernel
theorem dX8_isNode_0 : decode cX8_isNode 0 = .ok (.iload_n 1, 1) := by decide +kernel
theorem dX8_isNode_1 : decode cX8_isNode 1 = .ok (.iconst 0, 1) := by decide +kernel
theorem dX8_isNode_2 : decode cX8_isNode 2 = .ok (.aload_n 0, 1) := by decide +kernel
theorem dX8_isNode_3 : decode cX8_isNode 3 = .ok (.getfield 7, 3) := by decide +kernel
theorem dX8_isNode_6 : decode cX8_isNode 6 = .ok (.iconst 1, 1) := by decide +kernel
theorem dX8_isNode_7 : decode cX8_isNode 7 = .ok (.isub, 1) := by decide +kernel
theorem dX8_isNode_8 : decode cX8_isNode 8 = .ok (.invokestatic 93, 3) := by decide +kernel
theorem dX8_isNode_11 : decode cX8_isNode 11 = .ok (.ireturn, 1) := by decide +kernel
theorem dX8_areNodes_0 : decode cX8_areNodes 0 = .ok (.aload_n 0, 1) := by decide +kernel
theorem dX8_areNodes_1 : decode cX8_areNodes 1 = .ok (.iload_n 1, 1) := by decide +kernel
theorem dX8_areNodes_2 : decode cX8_areNodes 2 = .ok (.invokevirtual 97, 3) := by decide +kernel
theorem dX8_areNodes_5 : decode cX8_areNodes 5 = .ok (.ifCond .eq 15, 3) := by decide +kernel
theorem dX8_areNodes_8 : decode cX8_areNodes 8 = .ok (.aload_n 0, 1) := by decide +kernel
theorem dX8_areNodes_9 : decode cX8_areNodes 9 = .ok (.iload_n 2, 1) := by decide +kernel
theorem dX8_areNodes_10 : decode cX8_areNodes 10 = .ok (.invokevirtual 97, 3) := by decide +kernel
theorem dX8_areNodes_13 : decode cX8_areNodes 13 = .ok (.ifCond .eq 7, 3) := by decide +kernel
theorem dX8_areNodes_16 : decode cX8_areNodes 16 = .ok (.iconst 1, 1) := by decide +kernel
theorem dX8_areNodes_17 : decode cX8_areNodes 17 = .ok (.goto 4, 3) := by decide +kernel
theorem dX8_areNodes_20 : decode cX8_areNodes 20 = .ok (.iconst 0, 1) := by decide +kernel
theorem dX8_areNodes_21 : decode cX8_areNodes 21 = .ok (.ireturn, 1) := by decide +kernel
theorem dX8_areTwo_0 : decode cX8_areTwo 0 = .ok (.aload_n 0, 1) := by decide +kernel
theorem dX8_areTwo_1 : decode cX8_areTwo 1 = .ok (.iload_n 1, 1) := by decide +kernel
theorem dX8_areTwo_2 : decode cX8_areTwo 2 = .ok (.iload_n 2, 1) := by decide +kernel
theorem dX8_areTwo_3 : decode cX8_areTwo 3 = .ok (.invokevirtual 101, 3) := by decide +kernel
theorem dX8_areTwo_6 : decode cX8_areTwo 6 = .ok (.ifCond .eq 12, 3) := by decide +kernel
theorem dX8_areTwo_9 : decode cX8_areTwo 9 = .ok (.iload_n 1, 1) := by decide +kernel
theorem dX8_areTwo_10 : decode cX8_areTwo 10 = .ok (.iload_n 2, 1) := by decide +kernel
theorem dX8_areTwo_11 : decode cX8_areTwo 11 = .ok (.if_icmp .eq 7, 3) := by decide +kernel
theorem dX8_areTwo_14 : decode cX8_areTwo 14 = .ok (.iconst 1, 1) := by decide +kernel
theorem dX8_areTwo_15 : decode cX8_areTwo 15 = .ok (.goto 4, 3) := by decide +kernel
theorem dX8_areTwo_18 : decode cX8_areTwo 18 = .ok (.iconst 0, 1) := by decide +kernel
theorem dX8_areTwo_19 : decode cX8_areTwo 19 = .ok (.ireturn, 1) := by decide +kernel
theorem dX8_isEdge_0 : decode cX8_isEdge 0 = .ok (.iload_n 1, 1) := by decide +kernel
theorem dX8_isEdge_1 : decode cX8_isEdge 1 = .ok (.iconst 0, 1) := by decide +kernel
theorem dX8_isEdge_2 : decode cX8_isEdge 2 = .ok (.aload_n 0, 1) := by decide +kernel
theorem dX8_isEdge_3 : decode cX8_isEdge 3 = .ok (.getfield 105, 3) := by decide +kernel
theorem dX8_isEdge_6 : decode cX8_isEdge 6 = .ok (.iconst 1, 1) := by decide +kernel
theorem dX8_isEdge_7 : decode cX8_isEdge 7 = .ok (.isub, 1) := by decide +kernel
theorem dX8_isEdge_8 : decode cX8_isEdge 8 = .ok (.invokestatic 93, 3) := by decide +kernel
theorem dX8_isEdge_11 : decode cX8_isEdge 11 = .ok (.ireturn, 1) := by decide +kernel
theorem dX8_isUsable_0 : decode cX8_isUsable 0 = .ok (.aload_n 0, 1) := by decide +kernel
theorem dX8_isUsable_1 : decode cX8_isUsable 1 = .ok (.getfield 23, 3) := by decide +kernel
theorem dX8_isUsable_4 : decode cX8_isUsable 4 = .ok (.iload_n 1, 1) := by decide +kernel
theorem dX8_isUsable_5 : decode cX8_isUsable 5 = .ok (.baload, 1) := by decide +kernel
theorem dX8_isUsable_6 : decode cX8_isUsable 6 = .ok (.ifCond .ne 35, 3) := by decide +kernel
theorem dX8_isUsable_9 : decode cX8_isUsable 9 = .ok (.aload_n 0, 1) := by decide +kernel
theorem dX8_isUsable_10 : decode cX8_isUsable 10 = .ok (.getfield 27, 3) := by decide +kernel
theorem dX8_isUsable_13 : decode cX8_isUsable 13 = .ok (.aload_n 0, 1) := by decide +kernel
theorem dX8_isUsable_14 : decode cX8_isUsable 14 = .ok (.getfield 13, 3) := by decide +kernel
theorem dX8_isUsable_17 : decode cX8_isUsable 17 = .ok (.iload_n 1, 1) := by decide +kernel
theorem dX8_isUsable_18 : decode cX8_isUsable 18 = .ok (.iaload, 1) := by decide +kernel
theorem dX8_isUsable_19 : decode cX8_isUsable 19 = .ok (.baload, 1) := by decide +kernel
theorem dX8_isUsable_20 : decode cX8_isUsable 20 = .ok (.ifCond .ne 21, 3) := by decide +kernel
theorem dX8_isUsable_23 : decode cX8_isUsable 23 = .ok (.aload_n 0, 1) := by decide +kernel
theorem dX8_isUsable_24 : decode cX8_isUsable 24 = .ok (.getfield 27, 3) := by decide +kernel
theorem dX8_isUsable_27 : decode cX8_isUsable 27 = .ok (.aload_n 0, 1) := by decide +kernel
theorem dX8_isUsable_28 : decode cX8_isUsable 28 = .ok (.getfield 17, 3) := by decide +kernel
theorem dX8_isUsable_31 : decode cX8_isUsable 31 = .ok (.iload_n 1, 1) := by decide +kernel
theorem dX8_isUsable_32 : decode cX8_isUsable 32 = .ok (.iaload, 1) := by decide +kernel
theorem dX8_isUsable_33 : decode cX8_isUsable 33 = .ok (.baload, 1) := by decide +kernel
theorem dX8_isUsable_34 : decode cX8_isUsable 34 = .ok (.ifCond .ne 7, 3) := by decide +kernel
theorem dX8_isUsable_37 : decode cX8_isUsable 37 = .ok (.iconst 1, 1) := by decide +kernel
theorem dX8_isUsable_38 : decode cX8_isUsable 38 = .ok (.goto 4, 3) := by decide +kernel
theorem dX8_isUsable_41 : decode cX8_isUsable 41 = .ok (.iconst 0, 1) := by decide +kernel
theorem dX8_isUsable_42 : decode cX8_isUsable 42 = .ok (.ireturn, 1) := by decide +kernel
theorem dX8_isChanged_0 : decode cX8_isChanged 0 = .ok (.aload_n 0, 1) := by decide +kernel
theorem dX8_isChanged_1 : decode cX8_isChanged 1 = .ok (.iconst 0, 1) := by decide +kernel
theorem dX8_isChanged_2 : decode cX8_isChanged 2 = .ok (.putfield 108, 3) := by decide +kernel
theorem dX8_isChanged_5 : decode cX8_isChanged 5 = .ok (.aload_n 0, 1) := by decide +kernel
theorem dX8_isChanged_6 : decode cX8_isChanged 6 = .ok (.iconst 0, 1) := by decide +kernel
theorem dX8_isChanged_7 : decode cX8_isChanged 7 = .ok (.putfield 112, 3) := by decide +kernel
theorem dX8_isChanged_10 : decode cX8_isChanged 10 = .ok (.return_, 1) := by decide +kernel
theorem dX8_begin_0 : decode cX8_begin 0 = .ok (.aload_n 0, 1) := by decide +kernel
theorem dX8_begin_1 : decode cX8_begin 1 = .ok (.iload_n 1, 1) := by decide +kernel
theorem dX8_begin_2 : decode cX8_begin 2 = .ok (.iconst 2, 1) := by decide +kernel
theorem dX8_begin_3 : decode cX8_begin 3 = .ok (.bipush 10, 2) := by decide +kernel
theorem dX8_begin_5 : decode cX8_begin 5 = .ok (.invokestatic 93, 3) := by decide +kernel
theorem dX8_begin_8 : decode cX8_begin 8 = .ok (.ifCond .eq 7, 3) := by decide +kernel
theorem dX8_begin_11 : decode cX8_begin 11 = .ok (.iconst 0, 1) := by decide +kernel
theorem dX8_begin_12 : decode cX8_begin 12 = .ok (.goto 4, 3) := by decide +kernel
theorem dX8_begin_15 : decode cX8_begin 15 = .ok (.iconst 1, 1) := by decide +kernel
theorem dX8_begin_16 : decode cX8_begin 16 = .ok (.invokevirtual 115, 3) := by decide +kernel
theorem dX8_begin_19 : decode cX8_begin 19 = .ok (.ifCond .eq 60, 3) := by decide +kernel
theorem dX8_begin_22 : decode cX8_begin 22 = .ok (.aload_n 0, 1) := by decide +kernel
theorem dX8_begin_23 : decode cX8_begin 23 = .ok (.iload_n 1, 1) := by decide +kernel
theorem dX8_begin_24 : decode cX8_begin 24 = .ok (.putfield 7, 3) := by decide +kernel
theorem dX8_begin_27 : decode cX8_begin 27 = .ok (.aload_n 0, 1) := by decide +kernel
theorem dX8_begin_28 : decode cX8_begin 28 = .ok (.iconst 0, 1) := by decide +kernel
theorem dX8_begin_29 : decode cX8_begin 29 = .ok (.putfield 105, 3) := by decide +kernel
theorem dX8_begin_32 : decode cX8_begin 32 = .ok (.aload_n 0, 1) := by decide +kernel
theorem dX8_begin_33 : decode cX8_begin 33 = .ok (.invokevirtual 118, 3) := by decide +kernel
theorem dX8_begin_36 : decode cX8_begin 36 = .ok (.iconst 0, 1) := by decide +kernel
theorem dX8_begin_37 : decode cX8_begin 37 = .ok (.istore_n 2, 1) := by decide +kernel
theorem dX8_begin_38 : decode cX8_begin 38 = .ok (.iload_n 2, 1) := by decide +kernel
theorem dX8_begin_39 : decode cX8_begin 39 = .ok (.bipush 10, 2) := by decide +kernel
theorem dX8_begin_41 : decode cX8_begin 41 = .ok (.if_icmp .ge 16, 3) := by decide +kernel
theorem dX8_begin_44 : decode cX8_begin 44 = .ok (.aload_n 0, 1) := by decide +kernel
theorem dX8_begin_45 : decode cX8_begin 45 = .ok (.getfield 27, 3) := by decide +kernel
theorem dX8_begin_48 : decode cX8_begin 48 = .ok (.iload_n 2, 1) := by decide +kernel
theorem dX8_begin_49 : decode cX8_begin 49 = .ok (.iconst 0, 1) := by decide +kernel
theorem dX8_begin_50 : decode cX8_begin 50 = .ok (.bastore, 1) := by decide +kernel
theorem dX8_begin_51 : decode cX8_begin 51 = .ok (.iinc 2 1, 3) := by decide +kernel
theorem dX8_begin_54 : decode cX8_begin 54 = .ok (.goto (-16), 3) := by decide +kernel
theorem dX8_begin_57 : decode cX8_begin 57 = .ok (.iconst 0, 1) := by decide +kernel
theorem dX8_begin_58 : decode cX8_begin 58 = .ok (.istore_n 2, 1) := by decide +kernel
theorem dX8_begin_59 : decode cX8_begin 59 = .ok (.iload_n 2, 1) := by decide +kernel
theorem dX8_begin_60 : decode cX8_begin 60 = .ok (.sipush 576, 3) := by decide +kernel
theorem dX8_begin_63 : decode cX8_begin 63 = .ok (.if_icmp .ge 16, 3) := by decide +kernel
theorem dX8_begin_66 : decode cX8_begin 66 = .ok (.aload_n 0, 1) := by decide +kernel
theorem dX8_begin_67 : decode cX8_begin 67 = .ok (.getfield 30, 3) := by decide +kernel
theorem dX8_begin_70 : decode cX8_begin 70 = .ok (.iload_n 2, 1) := by decide +kernel
theorem dX8_begin_71 : decode cX8_begin 71 = .ok (.iconst 0, 1) := by decide +kernel
theorem dX8_begin_72 : decode cX8_begin 72 = .ok (.bastore, 1) := by decide +kernel
theorem dX8_begin_73 : decode cX8_begin 73 = .ok (.iinc 2 1, 3) := by decide +kernel
theorem dX8_begin_76 : decode cX8_begin 76 = .ok (.goto (-17), 3) := by decide +kernel
theorem dX8_begin_79 : decode cX8_begin 79 = .ok (.return_, 1) := by decide +kernel
theorem dX8_addEdge_0 : decode cX8_addEdge 0 = .ok (.aload_n 0, 1) := by decide +kernel
theorem dX8_addEdge_1 : decode cX8_addEdge 1 = .ok (.aload_n 0, 1) := by decide +kernel
theorem dX8_addEdge_2 : decode cX8_addEdge 2 = .ok (.iload_n 1, 1) := by decide +kernel
theorem dX8_addEdge_3 : decode cX8_addEdge 3 = .ok (.iload_n 2, 1) := by decide +kernel
theorem dX8_addEdge_4 : decode cX8_addEdge 4 = .ok (.invokevirtual 121, 3) := by decide +kernel
theorem dX8_addEdge_7 : decode cX8_addEdge 7 = .ok (.ifCond .eq 14, 3) := by decide +kernel
theorem dX8_addEdge_10 : decode cX8_addEdge 10 = .ok (.iload_n 3, 1) := by decide +kernel
theorem dX8_addEdge_11 : decode cX8_addEdge 11 = .ok (.iconst 1, 1) := by decide +kernel
theorem dX8_addEdge_12 : decode cX8_addEdge 12 = .ok (.sipush 1000, 3) := by decide +kernel
theorem dX8_addEdge_15 : decode cX8_addEdge 15 = .ok (.invokestatic 93, 3) := by decide +kernel
theorem dX8_addEdge_18 : decode cX8_addEdge 18 = .ok (.ifCond .ne 7, 3) := by decide +kernel
theorem dX8_addEdge_21 : decode cX8_addEdge 21 = .ok (.iconst 1, 1) := by decide +kernel
theorem dX8_addEdge_22 : decode cX8_addEdge 22 = .ok (.goto 17, 3) := by decide +kernel
theorem dX8_addEdge_25 : decode cX8_addEdge 25 = .ok (.aload_n 0, 1) := by decide +kernel
theorem dX8_addEdge_26 : decode cX8_addEdge 26 = .ok (.getfield 105, 3) := by decide +kernel
theorem dX8_addEdge_29 : decode cX8_addEdge 29 = .ok (.bipush 24, 2) := by decide +kernel
theorem dX8_addEdge_31 : decode cX8_addEdge 31 = .ok (.if_icmp .ne 7, 3) := by decide +kernel
theorem dX8_addEdge_34 : decode cX8_addEdge 34 = .ok (.iconst 2, 1) := by decide +kernel
theorem dX8_addEdge_35 : decode cX8_addEdge 35 = .ok (.goto 4, 3) := by decide +kernel
theorem dX8_addEdge_38 : decode cX8_addEdge 38 = .ok (.iconst 0, 1) := by decide +kernel
theorem dX8_addEdge_39 : decode cX8_addEdge 39 = .ok (.invokevirtual 115, 3) := by decide +kernel
theorem dX8_addEdge_42 : decode cX8_addEdge 42 = .ok (.ifCond .ne 5, 3) := by decide +kernel
theorem dX8_addEdge_45 : decode cX8_addEdge 45 = .ok (.iconst 0, 1) := by decide +kernel
theorem dX8_addEdge_46 : decode cX8_addEdge 46 = .ok (.ireturn, 1) := by decide +kernel
theorem dX8_addEdge_47 : decode cX8_addEdge 47 = .ok (.aload_n 0, 1) := by decide +kernel
theorem dX8_addEdge_48 : decode cX8_addEdge 48 = .ok (.getfield 13, 3) := by decide +kernel
theorem dX8_addEdge_51 : decode cX8_addEdge 51 = .ok (.aload_n 0, 1) := by decide +kernel
theorem dX8_addEdge_52 : decode cX8_addEdge 52 = .ok (.getfield 105, 3) := by decide +kernel
theorem dX8_addEdge_55 : decode cX8_addEdge 55 = .ok (.iload_n 1, 1) := by decide +kernel
theorem dX8_addEdge_56 : decode cX8_addEdge 56 = .ok (.iastore, 1) := by decide +kernel
theorem dX8_addEdge_57 : decode cX8_addEdge 57 = .ok (.aload_n 0, 1) := by decide +kernel
theorem dX8_addEdge_58 : decode cX8_addEdge 58 = .ok (.getfield 17, 3) := by decide +kernel
theorem dX8_addEdge_61 : decode cX8_addEdge 61 = .ok (.aload_n 0, 1) := by decide +kernel
theorem dX8_addEdge_62 : decode cX8_addEdge 62 = .ok (.getfield 105, 3) := by decide +kernel
theorem dX8_addEdge_65 : decode cX8_addEdge 65 = .ok (.iload_n 2, 1) := by decide +kernel
theorem dX8_addEdge_66 : decode cX8_addEdge 66 = .ok (.iastore, 1) := by decide +kernel
theorem dX8_addEdge_67 : decode cX8_addEdge 67 = .ok (.aload_n 0, 1) := by decide +kernel
theorem dX8_addEdge_68 : decode cX8_addEdge 68 = .ok (.getfield 20, 3) := by decide +kernel
theorem dX8_addEdge_71 : decode cX8_addEdge 71 = .ok (.aload_n 0, 1) := by decide +kernel
theorem dX8_addEdge_72 : decode cX8_addEdge 72 = .ok (.getfield 105, 3) := by decide +kernel
theorem dX8_addEdge_75 : decode cX8_addEdge 75 = .ok (.iload_n 3, 1) := by decide +kernel
theorem dX8_addEdge_76 : decode cX8_addEdge 76 = .ok (.iastore, 1) := by decide +kernel
theorem dX8_addEdge_77 : decode cX8_addEdge 77 = .ok (.aload_n 0, 1) := by decide +kernel
theorem dX8_addEdge_78 : decode cX8_addEdge 78 = .ok (.getfield 23, 3) := by decide +kernel
theorem dX8_addEdge_81 : decode cX8_addEdge 81 = .ok (.aload_n 0, 1) := by decide +kernel
theorem dX8_addEdge_82 : decode cX8_addEdge 82 = .ok (.getfield 105, 3) := by decide +kernel
theorem dX8_addEdge_85 : decode cX8_addEdge 85 = .ok (.iconst 0, 1) := by decide +kernel
theorem dX8_addEdge_86 : decode cX8_addEdge 86 = .ok (.bastore, 1) := by decide +kernel
theorem dX8_addEdge_87 : decode cX8_addEdge 87 = .ok (.aload_n 0, 1) := by decide +kernel
theorem dX8_addEdge_88 : decode cX8_addEdge 88 = .ok (.dup, 1) := by decide +kernel
theorem dX8_addEdge_89 : decode cX8_addEdge 89 = .ok (.getfield 105, 3) := by decide +kernel
theorem dX8_addEdge_92 : decode cX8_addEdge 92 = .ok (.iconst 1, 1) := by decide +kernel
theorem dX8_addEdge_93 : decode cX8_addEdge 93 = .ok (.iadd, 1) := by decide +kernel
theorem dX8_addEdge_94 : decode cX8_addEdge 94 = .ok (.putfield 105, 3) := by decide +kernel
theorem dX8_addEdge_97 : decode cX8_addEdge 97 = .ok (.aload_n 0, 1) := by decide +kernel
theorem dX8_addEdge_98 : decode cX8_addEdge 98 = .ok (.invokevirtual 118, 3) := by decide +kernel
theorem dX8_addEdge_101 : decode cX8_addEdge 101 = .ok (.aload_n 0, 1) := by decide +kernel
theorem dX8_addEdge_102 : decode cX8_addEdge 102 = .ok (.getfield 105, 3) := by decide +kernel
theorem dX8_addEdge_105 : decode cX8_addEdge 105 = .ok (.iconst 1, 1) := by decide +kernel
theorem dX8_addEdge_106 : decode cX8_addEdge 106 = .ok (.isub, 1) := by decide +kernel
theorem dX8_addEdge_107 : decode cX8_addEdge 107 = .ok (.ireturn, 1) := by decide +kernel
theorem dX8_setLength_0 : decode cX8_setLength 0 = .ok (.aload_n 0, 1) := by decide +kernel
theorem dX8_setLength_1 : decode cX8_setLength 1 = .ok (.aload_n 0, 1) := by decide +kernel
theorem dX8_setLength_2 : decode cX8_setLength 2 = .ok (.iload_n 1, 1) := by decide +kernel
theorem dX8_setLength_3 : decode cX8_setLength 3 = .ok (.invokevirtual 124, 3) := by decide +kernel
theorem dX8_setLength_6 : decode cX8_setLength 6 = .ok (.ifCond .eq 18, 3) := by decide +kernel
theorem dX8_setLength_9 : decode cX8_setLength 9 = .ok (.iload_n 2, 1) := by decide +kernel
theorem dX8_setLength_10 : decode cX8_setLength 10 = .ok (.iconst 1, 1) := by decide +kernel
theorem dX8_setLength_11 : decode cX8_setLength 11 = .ok (.sipush 1000, 3) := by decide +kernel
theorem dX8_setLength_14 : decode cX8_setLength 14 = .ok (.invokestatic 93, 3) := by decide +kernel
theorem dX8_setLength_17 : decode cX8_setLength 17 = .ok (.ifCond .eq 7, 3) := by decide +kernel
theorem dX8_setLength_20 : decode cX8_setLength 20 = .ok (.iconst 0, 1) := by decide +kernel
theorem dX8_setLength_21 : decode cX8_setLength 21 = .ok (.goto 4, 3) := by decide +kernel
theorem dX8_setLength_24 : decode cX8_setLength 24 = .ok (.iconst 1, 1) := by decide +kernel
theorem dX8_setLength_25 : decode cX8_setLength 25 = .ok (.invokevirtual 115, 3) := by decide +kernel
theorem dX8_setLength_28 : decode cX8_setLength 28 = .ok (.ifCond .ne 5, 3) := by decide +kernel
theorem dX8_setLength_31 : decode cX8_setLength 31 = .ok (.iconst 0, 1) := by decide +kernel
theorem dX8_setLength_32 : decode cX8_setLength 32 = .ok (.ireturn, 1) := by decide +kernel
theorem dX8_setLength_33 : decode cX8_setLength 33 = .ok (.aload_n 0, 1) := by decide +kernel
theorem dX8_setLength_34 : decode cX8_setLength 34 = .ok (.getfield 20, 3) := by decide +kernel
theorem dX8_setLength_37 : decode cX8_setLength 37 = .ok (.iload_n 1, 1) := by decide +kernel
theorem dX8_setLength_38 : decode cX8_setLength 38 = .ok (.iaload, 1) := by decide +kernel
theorem dX8_setLength_39 : decode cX8_setLength 39 = .ok (.istore_n 3, 1) := by decide +kernel
theorem dX8_setLength_40 : decode cX8_setLength 40 = .ok (.aload_n 0, 1) := by decide +kernel
theorem dX8_setLength_41 : decode cX8_setLength 41 = .ok (.getfield 20, 3) := by decide +kernel
theorem dX8_setLength_44 : decode cX8_setLength 44 = .ok (.iload_n 1, 1) := by decide +kernel
theorem dX8_setLength_45 : decode cX8_setLength 45 = .ok (.iload_n 2, 1) := by decide +kernel
theorem dX8_setLength_46 : decode cX8_setLength 46 = .ok (.iastore, 1) := by decide +kernel
theorem dX8_setLength_47 : decode cX8_setLength 47 = .ok (.aload_n 0, 1) := by decide +kernel
theorem dX8_setLength_48 : decode cX8_setLength 48 = .ok (.invokevirtual 118, 3) := by decide +kernel
theorem dX8_setLength_51 : decode cX8_setLength 51 = .ok (.iload_n 3, 1) := by decide +kernel
theorem dX8_setLength_52 : decode cX8_setLength 52 = .ok (.ireturn, 1) := by decide +kernel
theorem dX8_toggleEdge_0 : decode cX8_toggleEdge 0 = .ok (.aload_n 0, 1) := by decide +kernel
theorem dX8_toggleEdge_1 : decode cX8_toggleEdge 1 = .ok (.aload_n 0, 1) := by decide +kernel
theorem dX8_toggleEdge_2 : decode cX8_toggleEdge 2 = .ok (.iload_n 1, 1) := by decide +kernel
theorem dX8_toggleEdge_3 : decode cX8_toggleEdge 3 = .ok (.invokevirtual 124, 3) := by decide +kernel
theorem dX8_toggleEdge_6 : decode cX8_toggleEdge 6 = .ok (.ifCond .eq 7, 3) := by decide +kernel
theorem dX8_toggleEdge_9 : decode cX8_toggleEdge 9 = .ok (.iconst 0, 1) := by decide +kernel
theorem dX8_toggleEdge_10 : decode cX8_toggleEdge 10 = .ok (.goto 4, 3) := by decide +kernel
theorem dX8_toggleEdge_13 : decode cX8_toggleEdge 13 = .ok (.iconst 1, 1) := by decide +kernel
theorem dX8_toggleEdge_14 : decode cX8_toggleEdge 14 = .ok (.invokevirtual 115, 3) := by decide +kernel
theorem dX8_toggleEdge_17 : decode cX8_toggleEdge 17 = .ok (.ifCond .ne 5, 3) := by decide +kernel
theorem dX8_toggleEdge_20 : decode cX8_toggleEdge 20 = .ok (.iconst 0, 1) := by decide +kernel
theorem dX8_toggleEdge_21 : decode cX8_toggleEdge 21 = .ok (.ireturn, 1) := by decide +kernel
theorem dX8_toggleEdge_22 : decode cX8_toggleEdge 22 = .ok (.aload_n 0, 1) := by decide +kernel
theorem dX8_toggleEdge_23 : decode cX8_toggleEdge 23 = .ok (.getfield 23, 3) := by decide +kernel
theorem dX8_toggleEdge_26 : decode cX8_toggleEdge 26 = .ok (.iload_n 1, 1) := by decide +kernel
theorem dX8_toggleEdge_27 : decode cX8_toggleEdge 27 = .ok (.aload_n 0, 1) := by decide +kernel
theorem dX8_toggleEdge_28 : decode cX8_toggleEdge 28 = .ok (.getfield 23, 3) := by decide +kernel
theorem dX8_toggleEdge_31 : decode cX8_toggleEdge 31 = .ok (.iload_n 1, 1) := by decide +kernel
theorem dX8_toggleEdge_32 : decode cX8_toggleEdge 32 = .ok (.baload, 1) := by decide +kernel
theorem dX8_toggleEdge_33 : decode cX8_toggleEdge 33 = .ok (.ifCond .ne 7, 3) := by decide +kernel
theorem dX8_toggleEdge_36 : decode cX8_toggleEdge 36 = .ok (.iconst 1, 1) := by decide +kernel
theorem dX8_toggleEdge_37 : decode cX8_toggleEdge 37 = .ok (.goto 4, 3) := by decide +kernel
theorem dX8_toggleEdge_40 : decode cX8_toggleEdge 40 = .ok (.iconst 0, 1) := by decide +kernel
theorem dX8_toggleEdge_41 : decode cX8_toggleEdge 41 = .ok (.bastore, 1) := by decide +kernel
theorem dX8_toggleEdge_42 : decode cX8_toggleEdge 42 = .ok (.aload_n 0, 1) := by decide +kernel
theorem dX8_toggleEdge_43 : decode cX8_toggleEdge 43 = .ok (.invokevirtual 118, 3) := by decide +kernel
theorem dX8_toggleEdge_46 : decode cX8_toggleEdge 46 = .ok (.aload_n 0, 1) := by decide +kernel
theorem dX8_toggleEdge_47 : decode cX8_toggleEdge 47 = .ok (.getfield 23, 3) := by decide +kernel
theorem dX8_toggleEdge_50 : decode cX8_toggleEdge 50 = .ok (.iload_n 1, 1) := by decide +kernel
theorem dX8_toggleEdge_51 : decode cX8_toggleEdge 51 = .ok (.baload, 1) := by decide +kernel
theorem dX8_toggleEdge_52 : decode cX8_toggleEdge 52 = .ok (.ireturn, 1) := by decide +kernel
theorem dX8_toggleNode_0 : decode cX8_toggleNode 0 = .ok (.aload_n 0, 1) := by decide +kernel
theorem dX8_toggleNode_1 : decode cX8_toggleNode 1 = .ok (.aload_n 0, 1) := by decide +kernel
theorem dX8_toggleNode_2 : decode cX8_toggleNode 2 = .ok (.iload_n 1, 1) := by decide +kernel
theorem dX8_toggleNode_3 : decode cX8_toggleNode 3 = .ok (.invokevirtual 97, 3) := by decide +kernel
theorem dX8_toggleNode_6 : decode cX8_toggleNode 6 = .ok (.ifCond .eq 7, 3) := by decide +kernel
theorem dX8_toggleNode_9 : decode cX8_toggleNode 9 = .ok (.iconst 0, 1) := by decide +kernel
theorem dX8_toggleNode_10 : decode cX8_toggleNode 10 = .ok (.goto 4, 3) := by decide +kernel
theorem dX8_toggleNode_13 : decode cX8_toggleNode 13 = .ok (.iconst 1, 1) := by decide +kernel
theorem dX8_toggleNode_14 : decode cX8_toggleNode 14 = .ok (.invokevirtual 115, 3) := by decide +kernel
theorem dX8_toggleNode_17 : decode cX8_toggleNode 17 = .ok (.ifCond .ne 5, 3) := by decide +kernel
theorem dX8_toggleNode_20 : decode cX8_toggleNode 20 = .ok (.iconst 0, 1) := by decide +kernel
theorem dX8_toggleNode_21 : decode cX8_toggleNode 21 = .ok (.ireturn, 1) := by decide +kernel
theorem dX8_toggleNode_22 : decode cX8_toggleNode 22 = .ok (.aload_n 0, 1) := by decide +kernel
theorem dX8_toggleNode_23 : decode cX8_toggleNode 23 = .ok (.getfield 27, 3) := by decide +kernel
theorem dX8_toggleNode_26 : decode cX8_toggleNode 26 = .ok (.iload_n 1, 1) := by decide +kernel
theorem dX8_toggleNode_27 : decode cX8_toggleNode 27 = .ok (.aload_n 0, 1) := by decide +kernel
theorem dX8_toggleNode_28 : decode cX8_toggleNode 28 = .ok (.getfield 27, 3) := by decide +kernel
theorem dX8_toggleNode_31 : decode cX8_toggleNode 31 = .ok (.iload_n 1, 1) := by decide +kernel
theorem dX8_toggleNode_32 : decode cX8_toggleNode 32 = .ok (.baload, 1) := by decide +kernel
theorem dX8_toggleNode_33 : decode cX8_toggleNode 33 = .ok (.ifCond .ne 7, 3) := by decide +kernel
theorem dX8_toggleNode_36 : decode cX8_toggleNode 36 = .ok (.iconst 1, 1) := by decide +kernel
theorem dX8_toggleNode_37 : decode cX8_toggleNode 37 = .ok (.goto 4, 3) := by decide +kernel
theorem dX8_toggleNode_40 : decode cX8_toggleNode 40 = .ok (.iconst 0, 1) := by decide +kernel
theorem dX8_toggleNode_41 : decode cX8_toggleNode 41 = .ok (.bastore, 1) := by decide +kernel
theorem dX8_toggleNode_42 : decode cX8_toggleNode 42 = .ok (.aload_n 0, 1) := by decide +kernel
theorem dX8_toggleNode_43 : decode cX8_toggleNode 43 = .ok (.invokevirtual 118, 3) := by decide +kernel
theorem dX8_toggleNode_46 : decode cX8_toggleNode 46 = .ok (.aload_n 0, 1) := by decide +kernel
theorem dX8_toggleNode_47 : decode cX8_toggleNode 47 = .ok (.getfield 27, 3) := by decide +kernel
theorem dX8_toggleNode_50 : decode cX8_toggleNode 50 = .ok (.iload_n 1, 1) := by decide +kernel
theorem dX8_toggleNode_51 : decode cX8_toggleNode 51 = .ok (.baload, 1) := by decide +kernel
theorem dX8_toggleNode_52 : decode cX8_toggleNode 52 = .ok (.ireturn, 1) := by decide +kernel
theorem dX8_toggleTurn_0 : decode cX8_toggleTurn 0 = .ok (.aload_n 0, 1) := by decide +kernel
theorem dX8_toggleTurn_1 : decode cX8_toggleTurn 1 = .ok (.aload_n 0, 1) := by decide +kernel
theorem dX8_toggleTurn_2 : decode cX8_toggleTurn 2 = .ok (.iload_n 1, 1) := by decide +kernel
theorem dX8_toggleTurn_3 : decode cX8_toggleTurn 3 = .ok (.invokevirtual 124, 3) := by decide +kernel
theorem dX8_toggleTurn_6 : decode cX8_toggleTurn 6 = .ok (.ifCond .eq 30, 3) := by decide +kernel
theorem dX8_toggleTurn_9 : decode cX8_toggleTurn 9 = .ok (.aload_n 0, 1) := by decide +kernel
theorem dX8_toggleTurn_10 : decode cX8_toggleTurn 10 = .ok (.iload_n 2, 1) := by decide +kernel
theorem dX8_toggleTurn_11 : decode cX8_toggleTurn 11 = .ok (.invokevirtual 124, 3) := by decide +kernel
theorem dX8_toggleTurn_14 : decode cX8_toggleTurn 14 = .ok (.ifCond .eq 22, 3) := by decide +kernel
theorem dX8_toggleTurn_17 : decode cX8_toggleTurn 17 = .ok (.aload_n 0, 1) := by decide +kernel
theorem dX8_toggleTurn_18 : decode cX8_toggleTurn 18 = .ok (.getfield 13, 3) := by decide +kernel
theorem dX8_toggleTurn_21 : decode cX8_toggleTurn 21 = .ok (.iload_n 2, 1) := by decide +kernel
theorem dX8_toggleTurn_22 : decode cX8_toggleTurn 22 = .ok (.iaload, 1) := by decide +kernel
theorem dX8_toggleTurn_23 : decode cX8_toggleTurn 23 = .ok (.aload_n 0, 1) := by decide +kernel
theorem dX8_toggleTurn_24 : decode cX8_toggleTurn 24 = .ok (.getfield 17, 3) := by decide +kernel
theorem dX8_toggleTurn_27 : decode cX8_toggleTurn 27 = .ok (.iload_n 1, 1) := by decide +kernel
theorem dX8_toggleTurn_28 : decode cX8_toggleTurn 28 = .ok (.iaload, 1) := by decide +kernel
theorem dX8_toggleTurn_29 : decode cX8_toggleTurn 29 = .ok (.if_icmp .ne 7, 3) := by decide +kernel
theorem dX8_toggleTurn_32 : decode cX8_toggleTurn 32 = .ok (.iconst 0, 1) := by decide +kernel
theorem dX8_toggleTurn_33 : decode cX8_toggleTurn 33 = .ok (.goto 4, 3) := by decide +kernel
theorem dX8_toggleTurn_36 : decode cX8_toggleTurn 36 = .ok (.iconst 1, 1) := by decide +kernel
theorem dX8_toggleTurn_37 : decode cX8_toggleTurn 37 = .ok (.invokevirtual 115, 3) := by decide +kernel
theorem dX8_toggleTurn_40 : decode cX8_toggleTurn 40 = .ok (.ifCond .ne 5, 3) := by decide +kernel
theorem dX8_toggleTurn_43 : decode cX8_toggleTurn 43 = .ok (.iconst 0, 1) := by decide +kernel
theorem dX8_toggleTurn_44 : decode cX8_toggleTurn 44 = .ok (.ireturn, 1) := by decide +kernel
theorem dX8_toggleTurn_45 : decode cX8_toggleTurn 45 = .ok (.bipush 24, 2) := by decide +kernel
theorem dX8_toggleTurn_47 : decode cX8_toggleTurn 47 = .ok (.iload_n 1, 1) := by decide +kernel
theorem dX8_toggleTurn_48 : decode cX8_toggleTurn 48 = .ok (.imul, 1) := by decide +kernel
theorem dX8_toggleTurn_49 : decode cX8_toggleTurn 49 = .ok (.iload_n 2, 1) := by decide +kernel
theorem dX8_toggleTurn_50 : decode cX8_toggleTurn 50 = .ok (.iadd, 1) := by decide +kernel
theorem dX8_toggleTurn_51 : decode cX8_toggleTurn 51 = .ok (.istore_n 3, 1) := by decide +kernel
theorem dX8_toggleTurn_52 : decode cX8_toggleTurn 52 = .ok (.aload_n 0, 1) := by decide +kernel
theorem dX8_toggleTurn_53 : decode cX8_toggleTurn 53 = .ok (.getfield 30, 3) := by decide +kernel
theorem dX8_toggleTurn_56 : decode cX8_toggleTurn 56 = .ok (.iload_n 3, 1) := by decide +kernel
theorem dX8_toggleTurn_57 : decode cX8_toggleTurn 57 = .ok (.aload_n 0, 1) := by decide +kernel
theorem dX8_toggleTurn_58 : decode cX8_toggleTurn 58 = .ok (.getfield 30, 3) := by decide +kernel
theorem dX8_toggleTurn_61 : decode cX8_toggleTurn 61 = .ok (.iload_n 3, 1) := by decide +kernel
theorem dX8_toggleTurn_62 : decode cX8_toggleTurn 62 = .ok (.baload, 1) := by decide +kernel
theorem dX8_toggleTurn_63 : decode cX8_toggleTurn 63 = .ok (.ifCond .ne 7, 3) := by decide +kernel
theorem dX8_toggleTurn_66 : decode cX8_toggleTurn 66 = .ok (.iconst 1, 1) := by decide +kernel
theorem dX8_toggleTurn_67 : decode cX8_toggleTurn 67 = .ok (.goto 4, 3) := by decide +kernel
theorem dX8_toggleTurn_70 : decode cX8_toggleTurn 70 = .ok (.iconst 0, 1) := by decide +kernel
theorem dX8_toggleTurn_71 : decode cX8_toggleTurn 71 = .ok (.bastore, 1) := by decide +kernel
theorem dX8_toggleTurn_72 : decode cX8_toggleTurn 72 = .ok (.aload_n 0, 1) := by decide +kernel
theorem dX8_toggleTurn_73 : decode cX8_toggleTurn 73 = .ok (.getfield 30, 3) := by decide +kernel
theorem dX8_toggleTurn_76 : decode cX8_toggleTurn 76 = .ok (.iload_n 3, 1) := by decide +kernel
theorem dX8_toggleTurn_77 : decode cX8_toggleTurn 77 = .ok (.baload, 1) := by decide +kernel
theorem dX8_toggleTurn_78 : decode cX8_toggleTurn 78 = .ok (.ireturn, 1) := by decide +kernel
theorem dX8_nodes_0 : decode cX8_nodes 0 = .ok (.aload_n 0, 1) := by decide +kernel
theorem dX8_nodes_1 : decode cX8_nodes 1 = .ok (.iconst 0, 1) := by decide +kernel
theorem dX8_nodes_2 : decode cX8_nodes 2 = .ok (.putfield 90, 3) := by decide +kernel
theorem dX8_nodes_5 : decode cX8_nodes 5 = .ok (.aload_n 0, 1) := by decide +kernel
theorem dX8_nodes_6 : decode cX8_nodes 6 = .ok (.getfield 7, 3) := by decide +kernel
theorem dX8_nodes_9 : decode cX8_nodes 9 = .ok (.ireturn, 1) := by decide +kernel
theorem dX8_edges_0 : decode cX8_edges 0 = .ok (.aload_n 0, 1) := by decide +kernel
theorem dX8_edges_1 : decode cX8_edges 1 = .ok (.iconst 0, 1) := by decide +kernel
theorem dX8_edges_2 : decode cX8_edges 2 = .ok (.putfield 90, 3) := by decide +kernel
theorem dX8_edges_5 : decode cX8_edges 5 = .ok (.aload_n 0, 1) := by decide +kernel
theorem dX8_edges_6 : decode cX8_edges 6 = .ok (.getfield 105, 3) := by decide +kernel
theorem dX8_edges_9 : decode cX8_edges 9 = .ok (.ireturn, 1) := by decide +kernel
theorem dX8_usableEdges_0 : decode cX8_usableEdges 0 = .ok (.aload_n 0, 1) := by decide +kernel
theorem dX8_usableEdges_1 : decode cX8_usableEdges 1 = .ok (.iconst 0, 1) := by decide +kernel
theorem dX8_usableEdges_2 : decode cX8_usableEdges 2 = .ok (.putfield 90, 3) := by decide +kernel
theorem dX8_usableEdges_5 : decode cX8_usableEdges 5 = .ok (.iconst 0, 1) := by decide +kernel
theorem dX8_usableEdges_6 : decode cX8_usableEdges 6 = .ok (.istore_n 1, 1) := by decide +kernel
theorem dX8_usableEdges_7 : decode cX8_usableEdges 7 = .ok (.iconst 0, 1) := by decide +kernel
theorem dX8_usableEdges_8 : decode cX8_usableEdges 8 = .ok (.istore_n 2, 1) := by decide +kernel
theorem dX8_usableEdges_9 : decode cX8_usableEdges 9 = .ok (.iload_n 2, 1) := by decide +kernel
theorem dX8_usableEdges_10 : decode cX8_usableEdges 10 = .ok (.aload_n 0, 1) := by decide +kernel
theorem dX8_usableEdges_11 : decode cX8_usableEdges 11 = .ok (.getfield 105, 3) := by decide +kernel
theorem dX8_usableEdges_14 : decode cX8_usableEdges 14 = .ok (.if_icmp .ge 25, 3) := by decide +kernel
theorem dX8_usableEdges_17 : decode cX8_usableEdges 17 = .ok (.iload_n 1, 1) := by decide +kernel
theorem dX8_usableEdges_18 : decode cX8_usableEdges 18 = .ok (.aload_n 0, 1) := by decide +kernel
theorem dX8_usableEdges_19 : decode cX8_usableEdges 19 = .ok (.iload_n 2, 1) := by decide +kernel
theorem dX8_usableEdges_20 : decode cX8_usableEdges 20 = .ok (.invokevirtual 127, 3) := by decide +kernel
theorem dX8_usableEdges_23 : decode cX8_usableEdges 23 = .ok (.ifCond .eq 7, 3) := by decide +kernel
theorem dX8_usableEdges_26 : decode cX8_usableEdges 26 = .ok (.iconst 1, 1) := by decide +kernel
theorem dX8_usableEdges_27 : decode cX8_usableEdges 27 = .ok (.goto 4, 3) := by decide +kernel
theorem dX8_usableEdges_30 : decode cX8_usableEdges 30 = .ok (.iconst 0, 1) := by decide +kernel
theorem dX8_usableEdges_31 : decode cX8_usableEdges 31 = .ok (.iadd, 1) := by decide +kernel
theorem dX8_usableEdges_32 : decode cX8_usableEdges 32 = .ok (.istore_n 1, 1) := by decide +kernel
theorem dX8_usableEdges_33 : decode cX8_usableEdges 33 = .ok (.iinc 2 1, 3) := by decide +kernel
theorem dX8_usableEdges_36 : decode cX8_usableEdges 36 = .ok (.goto (-27), 3) := by decide +kernel
theorem dX8_usableEdges_39 : decode cX8_usableEdges 39 = .ok (.iload_n 1, 1) := by decide +kernel
theorem dX8_usableEdges_40 : decode cX8_usableEdges 40 = .ok (.ireturn, 1) := by decide +kernel
theorem dX8_shortest_0 : decode cX8_shortest 0 = .ok (.iconst 0, 1) := by decide +kernel
theorem dX8_shortest_1 : decode cX8_shortest 1 = .ok (.istore_n 3, 1) := by decide +kernel
theorem dX8_shortest_2 : decode cX8_shortest 2 = .ok (.iload_n 3, 1) := by decide +kernel
theorem dX8_shortest_3 : decode cX8_shortest 3 = .ok (.aload_n 0, 1) := by decide +kernel
theorem dX8_shortest_4 : decode cX8_shortest 4 = .ok (.getfield 7, 3) := by decide +kernel
theorem dX8_shortest_7 : decode cX8_shortest 7 = .ok (.if_icmp .ge 26, 3) := by decide +kernel
theorem dX8_shortest_10 : decode cX8_shortest 10 = .ok (.aload_n 0, 1) := by decide +kernel
theorem dX8_shortest_11 : decode cX8_shortest 11 = .ok (.getfield 78, 3) := by decide +kernel
theorem dX8_shortest_14 : decode cX8_shortest 14 = .ok (.iload_n 3, 1) := by decide +kernel
theorem dX8_shortest_15 : decode cX8_shortest 15 = .ok (.iload_n 3, 1) := by decide +kernel
theorem dX8_shortest_16 : decode cX8_shortest 16 = .ok (.iload_n 1, 1) := by decide +kernel
theorem dX8_shortest_17 : decode cX8_shortest 17 = .ok (.if_icmp .ne 7, 3) := by decide +kernel
theorem dX8_shortest_20 : decode cX8_shortest 20 = .ok (.iconst 0, 1) := by decide +kernel
theorem dX8_shortest_21 : decode cX8_shortest 21 = .ok (.goto 5, 3) := by decide +kernel
theorem dX8_shortest_24 : decode cX8_shortest 24 = .ok (.ldc 130, 2) := by decide +kernel
theorem dX8_shortest_26 : decode cX8_shortest 26 = .ok (.iastore, 1) := by decide +kernel
theorem dX8_shortest_27 : decode cX8_shortest 27 = .ok (.iinc 3 1, 3) := by decide +kernel
theorem dX8_shortest_30 : decode cX8_shortest 30 = .ok (.goto (-28), 3) := by decide +kernel
theorem dX8_shortest_33 : decode cX8_shortest 33 = .ok (.iconst 1, 1) := by decide +kernel
theorem dX8_shortest_34 : decode cX8_shortest 34 = .ok (.istore_n 3, 1) := by decide +kernel
theorem dX8_shortest_35 : decode cX8_shortest 35 = .ok (.iload_n 3, 1) := by decide +kernel
theorem dX8_shortest_36 : decode cX8_shortest 36 = .ok (.aload_n 0, 1) := by decide +kernel
theorem dX8_shortest_37 : decode cX8_shortest 37 = .ok (.getfield 7, 3) := by decide +kernel
theorem dX8_shortest_40 : decode cX8_shortest 40 = .ok (.if_icmp .ge 89, 3) := by decide +kernel
theorem dX8_shortest_43 : decode cX8_shortest 43 = .ok (.iconst 0, 1) := by decide +kernel
theorem dX8_shortest_44 : decode cX8_shortest 44 = .ok (.istore 4, 2) := by decide +kernel
theorem dX8_shortest_46 : decode cX8_shortest 46 = .ok (.iload 4, 2) := by decide +kernel
theorem dX8_shortest_48 : decode cX8_shortest 48 = .ok (.aload_n 0, 1) := by decide +kernel
theorem dX8_shortest_49 : decode cX8_shortest 49 = .ok (.getfield 105, 3) := by decide +kernel
theorem dX8_shortest_52 : decode cX8_shortest 52 = .ok (.if_icmp .ge 71, 3) := by decide +kernel
theorem dX8_shortest_55 : decode cX8_shortest 55 = .ok (.aload_n 0, 1) := by decide +kernel
theorem dX8_shortest_56 : decode cX8_shortest 56 = .ok (.getfield 78, 3) := by decide +kernel
theorem dX8_shortest_59 : decode cX8_shortest 59 = .ok (.aload_n 0, 1) := by decide +kernel
theorem dX8_shortest_60 : decode cX8_shortest 60 = .ok (.getfield 13, 3) := by decide +kernel
theorem dX8_shortest_63 : decode cX8_shortest 63 = .ok (.iload 4, 2) := by decide +kernel
theorem dX8_shortest_65 : decode cX8_shortest 65 = .ok (.iaload, 1) := by decide +kernel
theorem dX8_shortest_66 : decode cX8_shortest 66 = .ok (.iaload, 1) := by decide +kernel
theorem dX8_shortest_67 : decode cX8_shortest 67 = .ok (.aload_n 0, 1) := by decide +kernel
theorem dX8_shortest_68 : decode cX8_shortest 68 = .ok (.getfield 20, 3) := by decide +kernel
theorem dX8_shortest_71 : decode cX8_shortest 71 = .ok (.iload 4, 2) := by decide +kernel
theorem dX8_shortest_73 : decode cX8_shortest 73 = .ok (.iaload, 1) := by decide +kernel
theorem dX8_shortest_74 : decode cX8_shortest 74 = .ok (.iadd, 1) := by decide +kernel
theorem dX8_shortest_75 : decode cX8_shortest 75 = .ok (.istore 5, 2) := by decide +kernel
theorem dX8_shortest_77 : decode cX8_shortest 77 = .ok (.aload_n 0, 1) := by decide +kernel
theorem dX8_shortest_78 : decode cX8_shortest 78 = .ok (.iload 4, 2) := by decide +kernel
theorem dX8_shortest_80 : decode cX8_shortest 80 = .ok (.invokevirtual 127, 3) := by decide +kernel
theorem dX8_shortest_83 : decode cX8_shortest 83 = .ok (.ifCond .eq 34, 3) := by decide +kernel
theorem dX8_shortest_86 : decode cX8_shortest 86 = .ok (.iload 5, 2) := by decide +kernel
theorem dX8_shortest_88 : decode cX8_shortest 88 = .ok (.aload_n 0, 1) := by decide +kernel
theorem dX8_shortest_89 : decode cX8_shortest 89 = .ok (.getfield 78, 3) := by decide +kernel
theorem dX8_shortest_92 : decode cX8_shortest 92 = .ok (.aload_n 0, 1) := by decide +kernel
theorem dX8_shortest_93 : decode cX8_shortest 93 = .ok (.getfield 17, 3) := by decide +kernel
theorem dX8_shortest_96 : decode cX8_shortest 96 = .ok (.iload 4, 2) := by decide +kernel
theorem dX8_shortest_98 : decode cX8_shortest 98 = .ok (.iaload, 1) := by decide +kernel
theorem dX8_shortest_99 : decode cX8_shortest 99 = .ok (.iaload, 1) := by decide +kernel
theorem dX8_shortest_100 : decode cX8_shortest 100 = .ok (.if_icmp .ge 17, 3) := by decide +kernel
theorem dX8_shortest_103 : decode cX8_shortest 103 = .ok (.aload_n 0, 1) := by decide +kernel
theorem dX8_shortest_104 : decode cX8_shortest 104 = .ok (.getfield 78, 3) := by decide +kernel
theorem dX8_shortest_107 : decode cX8_shortest 107 = .ok (.aload_n 0, 1) := by decide +kernel
theorem dX8_shortest_108 : decode cX8_shortest 108 = .ok (.getfield 17, 3) := by decide +kernel
theorem dX8_shortest_111 : decode cX8_shortest 111 = .ok (.iload 4, 2) := by decide +kernel
theorem dX8_shortest_113 : decode cX8_shortest 113 = .ok (.iaload, 1) := by decide +kernel
theorem dX8_shortest_114 : decode cX8_shortest 114 = .ok (.iload 5, 2) := by decide +kernel
theorem dX8_shortest_116 : decode cX8_shortest 116 = .ok (.iastore, 1) := by decide +kernel
theorem dX8_shortest_117 : decode cX8_shortest 117 = .ok (.iinc 4 1, 3) := by decide +kernel
theorem dX8_shortest_120 : decode cX8_shortest 120 = .ok (.goto (-74), 3) := by decide +kernel
theorem dX8_shortest_123 : decode cX8_shortest 123 = .ok (.iinc 3 1, 3) := by decide +kernel
theorem dX8_shortest_126 : decode cX8_shortest 126 = .ok (.goto (-91), 3) := by decide +kernel
theorem dX8_shortest_129 : decode cX8_shortest 129 = .ok (.aload_n 0, 1) := by decide +kernel
theorem dX8_shortest_130 : decode cX8_shortest 130 = .ok (.getfield 78, 3) := by decide +kernel
theorem dX8_shortest_133 : decode cX8_shortest 133 = .ok (.iload_n 2, 1) := by decide +kernel
theorem dX8_shortest_134 : decode cX8_shortest 134 = .ok (.iaload, 1) := by decide +kernel
theorem dX8_shortest_135 : decode cX8_shortest 135 = .ok (.ireturn, 1) := by decide +kernel
theorem dX8_distance_0 : decode cX8_distance 0 = .ok (.aload_n 0, 1) := by decide +kernel
theorem dX8_distance_1 : decode cX8_distance 1 = .ok (.iload_n 1, 1) := by decide +kernel
theorem dX8_distance_2 : decode cX8_distance 2 = .ok (.iload_n 2, 1) := by decide +kernel
theorem dX8_distance_3 : decode cX8_distance 3 = .ok (.invokevirtual 101, 3) := by decide +kernel
theorem dX8_distance_6 : decode cX8_distance 6 = .ok (.ifCond .eq 12, 3) := by decide +kernel
theorem dX8_distance_9 : decode cX8_distance 9 = .ok (.aload_n 0, 1) := by decide +kernel
theorem dX8_distance_10 : decode cX8_distance 10 = .ok (.iload_n 1, 1) := by decide +kernel
theorem dX8_distance_11 : decode cX8_distance 11 = .ok (.iload_n 2, 1) := by decide +kernel
theorem dX8_distance_12 : decode cX8_distance 12 = .ok (.invokevirtual 131, 3) := by decide +kernel
theorem dX8_distance_15 : decode cX8_distance 15 = .ok (.goto 5, 3) := by decide +kernel
theorem dX8_distance_18 : decode cX8_distance 18 = .ok (.ldc 130, 2) := by decide +kernel
theorem dX8_distance_20 : decode cX8_distance 20 = .ok (.istore_n 3, 1) := by decide +kernel
theorem dX8_distance_21 : decode cX8_distance 21 = .ok (.aload_n 0, 1) := by decide +kernel
theorem dX8_distance_22 : decode cX8_distance 22 = .ok (.aload_n 0, 1) := by decide +kernel
theorem dX8_distance_23 : decode cX8_distance 23 = .ok (.iload_n 1, 1) := by decide +kernel
theorem dX8_distance_24 : decode cX8_distance 24 = .ok (.iload_n 2, 1) := by decide +kernel
theorem dX8_distance_25 : decode cX8_distance 25 = .ok (.invokevirtual 101, 3) := by decide +kernel
theorem dX8_distance_28 : decode cX8_distance 28 = .ok (.ifCond .ne 7, 3) := by decide +kernel
theorem dX8_distance_31 : decode cX8_distance 31 = .ok (.iconst 1, 1) := by decide +kernel
theorem dX8_distance_32 : decode cX8_distance 32 = .ok (.goto 14, 3) := by decide +kernel
theorem dX8_distance_35 : decode cX8_distance 35 = .ok (.iload_n 3, 1) := by decide +kernel
theorem dX8_distance_36 : decode cX8_distance 36 = .ok (.ldc 130, 2) := by decide +kernel
theorem dX8_distance_38 : decode cX8_distance 38 = .ok (.if_icmp .ne 7, 3) := by decide +kernel
theorem dX8_distance_41 : decode cX8_distance 41 = .ok (.iconst 2, 1) := by decide +kernel
theorem dX8_distance_42 : decode cX8_distance 42 = .ok (.goto 4, 3) := by decide +kernel
theorem dX8_distance_45 : decode cX8_distance 45 = .ok (.iconst 0, 1) := by decide +kernel
theorem dX8_distance_46 : decode cX8_distance 46 = .ok (.invokevirtual 115, 3) := by decide +kernel
theorem dX8_distance_49 : decode cX8_distance 49 = .ok (.ifCond .eq 7, 3) := by decide +kernel
theorem dX8_distance_52 : decode cX8_distance 52 = .ok (.iload_n 3, 1) := by decide +kernel
theorem dX8_distance_53 : decode cX8_distance 53 = .ok (.goto 4, 3) := by decide +kernel
theorem dX8_distance_56 : decode cX8_distance 56 = .ok (.iconst 0, 1) := by decide +kernel
theorem dX8_distance_57 : decode cX8_distance 57 = .ok (.ireturn, 1) := by decide +kernel
theorem dX8_goesOn_0 : decode cX8_goesOn 0 = .ok (.aload_n 0, 1) := by decide +kernel
theorem dX8_goesOn_1 : decode cX8_goesOn 1 = .ok (.iload_n 1, 1) := by decide +kernel
theorem dX8_goesOn_2 : decode cX8_goesOn 2 = .ok (.invokevirtual 127, 3) := by decide +kernel
theorem dX8_goesOn_5 : decode cX8_goesOn 5 = .ok (.ifCond .eq 30, 3) := by decide +kernel
theorem dX8_goesOn_8 : decode cX8_goesOn 8 = .ok (.aload_n 0, 1) := by decide +kernel
theorem dX8_goesOn_9 : decode cX8_goesOn 9 = .ok (.getfield 13, 3) := by decide +kernel
theorem dX8_goesOn_12 : decode cX8_goesOn 12 = .ok (.iload_n 1, 1) := by decide +kernel
theorem dX8_goesOn_13 : decode cX8_goesOn 13 = .ok (.iaload, 1) := by decide +kernel
theorem dX8_goesOn_14 : decode cX8_goesOn 14 = .ok (.iload_n 2, 1) := by decide +kernel
theorem dX8_goesOn_15 : decode cX8_goesOn 15 = .ok (.if_icmp .ne 20, 3) := by decide +kernel
theorem dX8_goesOn_18 : decode cX8_goesOn 18 = .ok (.iload_n 3, 1) := by decide +kernel
theorem dX8_goesOn_19 : decode cX8_goesOn 19 = .ok (.aload_n 0, 1) := by decide +kernel
theorem dX8_goesOn_20 : decode cX8_goesOn 20 = .ok (.getfield 17, 3) := by decide +kernel
theorem dX8_goesOn_23 : decode cX8_goesOn 23 = .ok (.iload_n 1, 1) := by decide +kernel
theorem dX8_goesOn_24 : decode cX8_goesOn 24 = .ok (.iaload, 1) := by decide +kernel
theorem dX8_goesOn_25 : decode cX8_goesOn 25 = .ok (.ishr, 1) := by decide +kernel
theorem dX8_goesOn_26 : decode cX8_goesOn 26 = .ok (.iconst 1, 1) := by decide +kernel
theorem dX8_goesOn_27 : decode cX8_goesOn 27 = .ok (.iand, 1) := by decide +kernel
theorem dX8_goesOn_28 : decode cX8_goesOn 28 = .ok (.ifCond .ne 7, 3) := by decide +kernel
theorem dX8_goesOn_31 : decode cX8_goesOn 31 = .ok (.iconst 1, 1) := by decide +kernel
theorem dX8_goesOn_32 : decode cX8_goesOn 32 = .ok (.goto 4, 3) := by decide +kernel
theorem dX8_goesOn_35 : decode cX8_goesOn 35 = .ok (.iconst 0, 1) := by decide +kernel
theorem dX8_goesOn_36 : decode cX8_goesOn 36 = .ok (.ireturn, 1) := by decide +kernel
theorem dX8_isBehind_0 : decode cX8_isBehind 0 = .ok (.iconst 0, 1) := by decide +kernel
theorem dX8_isBehind_1 : decode cX8_isBehind 1 = .ok (.istore_n 2, 1) := by decide +kernel
theorem dX8_isBehind_2 : decode cX8_isBehind 2 = .ok (.iload_n 2, 1) := by decide +kernel
theorem dX8_isBehind_3 : decode cX8_isBehind 3 = .ok (.iload_n 1, 1) := by decide +kernel
theorem dX8_isBehind_4 : decode cX8_isBehind 4 = .ok (.if_icmp .ge 32, 3) := by decide +kernel
theorem dX8_isBehind_7 : decode cX8_isBehind 7 = .ok (.iload_n 2, 1) := by decide +kernel
theorem dX8_isBehind_8 : decode cX8_isBehind 8 = .ok (.aload_n 0, 1) := by decide +kernel
theorem dX8_isBehind_9 : decode cX8_isBehind 9 = .ok (.getfield 135, 3) := by decide +kernel
theorem dX8_isBehind_12 : decode cX8_isBehind 12 = .ok (.if_icmp .ge 24, 3) := by decide +kernel
theorem dX8_isBehind_15 : decode cX8_isBehind 15 = .ok (.aload_n 0, 1) := by decide +kernel
theorem dX8_isBehind_16 : decode cX8_isBehind 16 = .ok (.getfield 36, 3) := by decide +kernel
theorem dX8_isBehind_19 : decode cX8_isBehind 19 = .ok (.iload_n 2, 1) := by decide +kernel
theorem dX8_isBehind_20 : decode cX8_isBehind 20 = .ok (.iaload, 1) := by decide +kernel
theorem dX8_isBehind_21 : decode cX8_isBehind 21 = .ok (.aload_n 0, 1) := by decide +kernel
theorem dX8_isBehind_22 : decode cX8_isBehind 22 = .ok (.getfield 33, 3) := by decide +kernel
theorem dX8_isBehind_25 : decode cX8_isBehind 25 = .ok (.iload_n 2, 1) := by decide +kernel
theorem dX8_isBehind_26 : decode cX8_isBehind 26 = .ok (.iaload, 1) := by decide +kernel
theorem dX8_isBehind_27 : decode cX8_isBehind 27 = .ok (.if_icmp .ne 9, 3) := by decide +kernel
theorem dX8_isBehind_30 : decode cX8_isBehind 30 = .ok (.iinc 2 1, 3) := by decide +kernel
theorem dX8_isBehind_33 : decode cX8_isBehind 33 = .ok (.goto (-31), 3) := by decide +kernel
theorem dX8_isBehind_36 : decode cX8_isBehind 36 = .ok (.iload_n 2, 1) := by decide +kernel
theorem dX8_isBehind_37 : decode cX8_isBehind 37 = .ok (.iload_n 1, 1) := by decide +kernel
theorem dX8_isBehind_38 : decode cX8_isBehind 38 = .ok (.if_icmp .ge 30, 3) := by decide +kernel
theorem dX8_isBehind_41 : decode cX8_isBehind 41 = .ok (.iload_n 2, 1) := by decide +kernel
theorem dX8_isBehind_42 : decode cX8_isBehind 42 = .ok (.aload_n 0, 1) := by decide +kernel
theorem dX8_isBehind_43 : decode cX8_isBehind 43 = .ok (.getfield 135, 3) := by decide +kernel
theorem dX8_isBehind_46 : decode cX8_isBehind 46 = .ok (.if_icmp .ge 22, 3) := by decide +kernel
theorem dX8_isBehind_49 : decode cX8_isBehind 49 = .ok (.aload_n 0, 1) := by decide +kernel
theorem dX8_isBehind_50 : decode cX8_isBehind 50 = .ok (.getfield 36, 3) := by decide +kernel
theorem dX8_isBehind_53 : decode cX8_isBehind 53 = .ok (.iload_n 2, 1) := by decide +kernel
theorem dX8_isBehind_54 : decode cX8_isBehind 54 = .ok (.iaload, 1) := by decide +kernel
theorem dX8_isBehind_55 : decode cX8_isBehind 55 = .ok (.aload_n 0, 1) := by decide +kernel
theorem dX8_isBehind_56 : decode cX8_isBehind 56 = .ok (.getfield 33, 3) := by decide +kernel
theorem dX8_isBehind_59 : decode cX8_isBehind 59 = .ok (.iload_n 2, 1) := by decide +kernel
theorem dX8_isBehind_60 : decode cX8_isBehind 60 = .ok (.iaload, 1) := by decide +kernel
theorem dX8_isBehind_61 : decode cX8_isBehind 61 = .ok (.if_icmp .le 7, 3) := by decide +kernel
theorem dX8_isBehind_64 : decode cX8_isBehind 64 = .ok (.iconst 1, 1) := by decide +kernel
theorem dX8_isBehind_65 : decode cX8_isBehind 65 = .ok (.goto 4, 3) := by decide +kernel
theorem dX8_isBehind_68 : decode cX8_isBehind 68 = .ok (.iconst 0, 1) := by decide +kernel
theorem dX8_isBehind_69 : decode cX8_isBehind 69 = .ok (.ireturn, 1) := by decide +kernel
theorem dX8_meets_0 : decode cX8_meets 0 = .ok (.aload_n 0, 1) := by decide +kernel
theorem dX8_meets_1 : decode cX8_meets 1 = .ok (.getfield 138, 3) := by decide +kernel
theorem dX8_meets_4 : decode cX8_meets 4 = .ok (.ifCond .eq 27, 3) := by decide +kernel
theorem dX8_meets_7 : decode cX8_meets 7 = .ok (.iload_n 2, 1) := by decide +kernel
theorem dX8_meets_8 : decode cX8_meets 8 = .ok (.aload_n 0, 1) := by decide +kernel
theorem dX8_meets_9 : decode cX8_meets 9 = .ok (.getfield 141, 3) := by decide +kernel
theorem dX8_meets_12 : decode cX8_meets 12 = .ok (.if_icmp .gt 19, 3) := by decide +kernel
theorem dX8_meets_15 : decode cX8_meets 15 = .ok (.iload_n 2, 1) := by decide +kernel
theorem dX8_meets_16 : decode cX8_meets 16 = .ok (.aload_n 0, 1) := by decide +kernel
theorem dX8_meets_17 : decode cX8_meets 17 = .ok (.getfield 141, 3) := by decide +kernel
theorem dX8_meets_20 : decode cX8_meets 20 = .ok (.if_icmp .ne 15, 3) := by decide +kernel
theorem dX8_meets_23 : decode cX8_meets 23 = .ok (.aload_n 0, 1) := by decide +kernel
theorem dX8_meets_24 : decode cX8_meets 24 = .ok (.iload_n 1, 1) := by decide +kernel
theorem dX8_meets_25 : decode cX8_meets 25 = .ok (.invokevirtual 144, 3) := by decide +kernel
theorem dX8_meets_28 : decode cX8_meets 28 = .ok (.ifCond .eq 7, 3) := by decide +kernel
theorem dX8_meets_31 : decode cX8_meets 31 = .ok (.iconst 1, 1) := by decide +kernel
theorem dX8_meets_32 : decode cX8_meets 32 = .ok (.goto 4, 3) := by decide +kernel
theorem dX8_meets_35 : decode cX8_meets 35 = .ok (.iconst 0, 1) := by decide +kernel
theorem dX8_meets_36 : decode cX8_meets 36 = .ok (.istore_n 3, 1) := by decide +kernel
theorem dX8_meets_37 : decode cX8_meets 37 = .ok (.iload_n 3, 1) := by decide +kernel
theorem dX8_meets_38 : decode cX8_meets 38 = .ok (.ifCond .eq 57, 3) := by decide +kernel
theorem dX8_meets_41 : decode cX8_meets 41 = .ok (.aload_n 0, 1) := by decide +kernel
theorem dX8_meets_42 : decode cX8_meets 42 = .ok (.getfield 147, 3) := by decide +kernel
theorem dX8_meets_45 : decode cX8_meets 45 = .ok (.ifCond .eq 11, 3) := by decide +kernel
theorem dX8_meets_48 : decode cX8_meets 48 = .ok (.iload_n 2, 1) := by decide +kernel
theorem dX8_meets_49 : decode cX8_meets 49 = .ok (.aload_n 0, 1) := by decide +kernel
theorem dX8_meets_50 : decode cX8_meets 50 = .ok (.getfield 150, 3) := by decide +kernel
theorem dX8_meets_53 : decode cX8_meets 53 = .ok (.if_icmp .ge 42, 3) := by decide +kernel
theorem dX8_meets_56 : decode cX8_meets 56 = .ok (.aload_n 0, 1) := by decide +kernel
theorem dX8_meets_57 : decode cX8_meets 57 = .ok (.iload_n 1, 1) := by decide +kernel
theorem dX8_meets_58 : decode cX8_meets 58 = .ok (.putfield 147, 3) := by decide +kernel
theorem dX8_meets_61 : decode cX8_meets 61 = .ok (.aload_n 0, 1) := by decide +kernel
theorem dX8_meets_62 : decode cX8_meets 62 = .ok (.iload_n 2, 1) := by decide +kernel
theorem dX8_meets_63 : decode cX8_meets 63 = .ok (.putfield 150, 3) := by decide +kernel
theorem dX8_meets_66 : decode cX8_meets 66 = .ok (.iconst 0, 1) := by decide +kernel
theorem dX8_meets_67 : decode cX8_meets 67 = .ok (.istore 4, 2) := by decide +kernel
theorem dX8_meets_69 : decode cX8_meets 69 = .ok (.iload 4, 2) := by decide +kernel
theorem dX8_meets_71 : decode cX8_meets 71 = .ok (.iload_n 1, 1) := by decide +kernel
theorem dX8_meets_72 : decode cX8_meets 72 = .ok (.if_icmp .ge 23, 3) := by decide +kernel
theorem dX8_meets_75 : decode cX8_meets 75 = .ok (.aload_n 0, 1) := by decide +kernel
theorem dX8_meets_76 : decode cX8_meets 76 = .ok (.getfield 48, 3) := by decide +kernel
theorem dX8_meets_79 : decode cX8_meets 79 = .ok (.iload 4, 2) := by decide +kernel
theorem dX8_meets_81 : decode cX8_meets 81 = .ok (.aload_n 0, 1) := by decide +kernel
theorem dX8_meets_82 : decode cX8_meets 82 = .ok (.getfield 36, 3) := by decide +kernel
theorem dX8_meets_85 : decode cX8_meets 85 = .ok (.iload 4, 2) := by decide +kernel
theorem dX8_meets_87 : decode cX8_meets 87 = .ok (.iaload, 1) := by decide +kernel
theorem dX8_meets_88 : decode cX8_meets 88 = .ok (.iastore, 1) := by decide +kernel
theorem dX8_meets_89 : decode cX8_meets 89 = .ok (.iinc 4 1, 3) := by decide +kernel
theorem dX8_meets_92 : decode cX8_meets 92 = .ok (.goto (-23), 3) := by decide +kernel
theorem dX8_meets_95 : decode cX8_meets 95 = .ok (.return_, 1) := by decide +kernel
theorem dX8_goesAlong_0 : decode cX8_goesAlong 0 = .ok (.iconst 0, 1) := by decide +kernel
theorem dX8_goesAlong_1 : decode cX8_goesAlong 1 = .ok (.istore 5, 2) := by decide +kernel
theorem dX8_goesAlong_3 : decode cX8_goesAlong 3 = .ok (.iconst 0, 1) := by decide +kernel
theorem dX8_goesAlong_4 : decode cX8_goesAlong 4 = .ok (.istore 6, 2) := by decide +kernel
theorem dX8_goesAlong_6 : decode cX8_goesAlong 6 = .ok (.iconst 1, 1) := by decide +kernel
theorem dX8_goesAlong_7 : decode cX8_goesAlong 7 = .ok (.iload_n 1, 1) := by decide +kernel
theorem dX8_goesAlong_8 : decode cX8_goesAlong 8 = .ok (.ishl, 1) := by decide +kernel
theorem dX8_goesAlong_9 : decode cX8_goesAlong 9 = .ok (.istore 7, 2) := by decide +kernel
theorem dX8_goesAlong_11 : decode cX8_goesAlong 11 = .ok (.aload_n 0, 1) := by decide +kernel
theorem dX8_goesAlong_12 : decode cX8_goesAlong 12 = .ok (.getfield 39, 3) := by decide +kernel
theorem dX8_goesAlong_15 : decode cX8_goesAlong 15 = .ok (.iconst 0, 1) := by decide +kernel
theorem dX8_goesAlong_16 : decode cX8_goesAlong 16 = .ok (.iload_n 1, 1) := by decide +kernel
theorem dX8_goesAlong_17 : decode cX8_goesAlong 17 = .ok (.iastore, 1) := by decide +kernel
theorem dX8_goesAlong_18 : decode cX8_goesAlong 18 = .ok (.aload_n 0, 1) := by decide +kernel
theorem dX8_goesAlong_19 : decode cX8_goesAlong 19 = .ok (.getfield 42, 3) := by decide +kernel
theorem dX8_goesAlong_22 : decode cX8_goesAlong 22 = .ok (.iconst 0, 1) := by decide +kernel
theorem dX8_goesAlong_23 : decode cX8_goesAlong 23 = .ok (.iconst 0, 1) := by decide +kernel
theorem dX8_goesAlong_24 : decode cX8_goesAlong 24 = .ok (.iastore, 1) := by decide +kernel
theorem dX8_goesAlong_25 : decode cX8_goesAlong 25 = .ok (.aload_n 0, 1) := by decide +kernel
theorem dX8_goesAlong_26 : decode cX8_goesAlong 26 = .ok (.getfield 45, 3) := by decide +kernel
theorem dX8_goesAlong_29 : decode cX8_goesAlong 29 = .ok (.iconst 0, 1) := by decide +kernel
theorem dX8_goesAlong_30 : decode cX8_goesAlong 30 = .ok (.iconst 0, 1) := by decide +kernel
theorem dX8_goesAlong_31 : decode cX8_goesAlong 31 = .ok (.iastore, 1) := by decide +kernel
theorem dX8_goesAlong_32 : decode cX8_goesAlong 32 = .ok (.iload 6, 2) := by decide +kernel
theorem dX8_goesAlong_34 : decode cX8_goesAlong 34 = .ok (.ifCond .lt 194, 3) := by decide +kernel
theorem dX8_goesAlong_37 : decode cX8_goesAlong 37 = .ok (.aload_n 0, 1) := by decide +kernel
theorem dX8_goesAlong_38 : decode cX8_goesAlong 38 = .ok (.getfield 45, 3) := by decide +kernel
theorem dX8_goesAlong_41 : decode cX8_goesAlong 41 = .ok (.iload 6, 2) := by decide +kernel
theorem dX8_goesAlong_43 : decode cX8_goesAlong 43 = .ok (.iaload, 1) := by decide +kernel
theorem dX8_goesAlong_44 : decode cX8_goesAlong 44 = .ok (.istore 8, 2) := by decide +kernel
theorem dX8_goesAlong_46 : decode cX8_goesAlong 46 = .ok (.aload_n 0, 1) := by decide +kernel
theorem dX8_goesAlong_47 : decode cX8_goesAlong 47 = .ok (.getfield 45, 3) := by decide +kernel
theorem dX8_goesAlong_50 : decode cX8_goesAlong 50 = .ok (.iload 6, 2) := by decide +kernel
theorem dX8_goesAlong_52 : decode cX8_goesAlong 52 = .ok (.dup2, 1) := by decide +kernel
theorem dX8_goesAlong_53 : decode cX8_goesAlong 53 = .ok (.iaload, 1) := by decide +kernel
theorem dX8_goesAlong_54 : decode cX8_goesAlong 54 = .ok (.iconst 1, 1) := by decide +kernel
theorem dX8_goesAlong_55 : decode cX8_goesAlong 55 = .ok (.iadd, 1) := by decide +kernel
theorem dX8_goesAlong_56 : decode cX8_goesAlong 56 = .ok (.iastore, 1) := by decide +kernel
theorem dX8_goesAlong_57 : decode cX8_goesAlong 57 = .ok (.iload 8, 2) := by decide +kernel
theorem dX8_goesAlong_59 : decode cX8_goesAlong 59 = .ok (.aload_n 0, 1) := by decide +kernel
theorem dX8_goesAlong_60 : decode cX8_goesAlong 60 = .ok (.getfield 105, 3) := by decide +kernel
theorem dX8_goesAlong_63 : decode cX8_goesAlong 63 = .ok (.if_icmp .ne 25, 3) := by decide +kernel
theorem dX8_goesAlong_66 : decode cX8_goesAlong 66 = .ok (.iload 7, 2) := by decide +kernel
theorem dX8_goesAlong_68 : decode cX8_goesAlong 68 = .ok (.iconst 1, 1) := by decide +kernel
theorem dX8_goesAlong_69 : decode cX8_goesAlong 69 = .ok (.aload_n 0, 1) := by decide +kernel
theorem dX8_goesAlong_70 : decode cX8_goesAlong 70 = .ok (.getfield 39, 3) := by decide +kernel
theorem dX8_goesAlong_73 : decode cX8_goesAlong 73 = .ok (.iload 6, 2) := by decide +kernel
theorem dX8_goesAlong_75 : decode cX8_goesAlong 75 = .ok (.iaload, 1) := by decide +kernel
theorem dX8_goesAlong_76 : decode cX8_goesAlong 76 = .ok (.ishl, 1) := by decide +kernel
theorem dX8_goesAlong_77 : decode cX8_goesAlong 77 = .ok (.iconst (-1), 1) := by decide +kernel
theorem dX8_goesAlong_78 : decode cX8_goesAlong 78 = .ok (.ixor, 1) := by decide +kernel
theorem dX8_goesAlong_79 : decode cX8_goesAlong 79 = .ok (.iand, 1) := by decide +kernel
theorem dX8_goesAlong_80 : decode cX8_goesAlong 80 = .ok (.istore 7, 2) := by decide +kernel
theorem dX8_goesAlong_82 : decode cX8_goesAlong 82 = .ok (.iinc 6 (-1), 3) := by decide +kernel
theorem dX8_goesAlong_85 : decode cX8_goesAlong 85 = .ok (.goto 140, 3) := by decide +kernel
theorem dX8_goesAlong_88 : decode cX8_goesAlong 88 = .ok (.aload_n 0, 1) := by decide +kernel
theorem dX8_goesAlong_89 : decode cX8_goesAlong 89 = .ok (.iload 8, 2) := by decide +kernel
theorem dX8_goesAlong_91 : decode cX8_goesAlong 91 = .ok (.aload_n 0, 1) := by decide +kernel
theorem dX8_goesAlong_92 : decode cX8_goesAlong 92 = .ok (.getfield 39, 3) := by decide +kernel
theorem dX8_goesAlong_95 : decode cX8_goesAlong 95 = .ok (.iload 6, 2) := by decide +kernel
theorem dX8_goesAlong_97 : decode cX8_goesAlong 97 = .ok (.iaload, 1) := by decide +kernel
theorem dX8_goesAlong_98 : decode cX8_goesAlong 98 = .ok (.iload 7, 2) := by decide +kernel
theorem dX8_goesAlong_100 : decode cX8_goesAlong 100 = .ok (.invokevirtual 153, 3) := by decide +kernel
theorem dX8_goesAlong_103 : decode cX8_goesAlong 103 = .ok (.ifCond .eq 122, 3) := by decide +kernel
theorem dX8_goesAlong_106 : decode cX8_goesAlong 106 = .ok (.aload_n 0, 1) := by decide +kernel
theorem dX8_goesAlong_107 : decode cX8_goesAlong 107 = .ok (.getfield 42, 3) := by decide +kernel
theorem dX8_goesAlong_110 : decode cX8_goesAlong 110 = .ok (.iload 6, 2) := by decide +kernel
theorem dX8_goesAlong_112 : decode cX8_goesAlong 112 = .ok (.iaload, 1) := by decide +kernel
theorem dX8_goesAlong_113 : decode cX8_goesAlong 113 = .ok (.aload_n 0, 1) := by decide +kernel
theorem dX8_goesAlong_114 : decode cX8_goesAlong 114 = .ok (.getfield 20, 3) := by decide +kernel
theorem dX8_goesAlong_117 : decode cX8_goesAlong 117 = .ok (.iload 8, 2) := by decide +kernel
theorem dX8_goesAlong_119 : decode cX8_goesAlong 119 = .ok (.iaload, 1) := by decide +kernel
theorem dX8_goesAlong_120 : decode cX8_goesAlong 120 = .ok (.iadd, 1) := by decide +kernel
theorem dX8_goesAlong_121 : decode cX8_goesAlong 121 = .ok (.istore 9, 2) := by decide +kernel
theorem dX8_goesAlong_123 : decode cX8_goesAlong 123 = .ok (.aload_n 0, 1) := by decide +kernel
theorem dX8_goesAlong_124 : decode cX8_goesAlong 124 = .ok (.getfield 36, 3) := by decide +kernel
theorem dX8_goesAlong_127 : decode cX8_goesAlong 127 = .ok (.iload 6, 2) := by decide +kernel
theorem dX8_goesAlong_129 : decode cX8_goesAlong 129 = .ok (.iload 8, 2) := by decide +kernel
theorem dX8_goesAlong_131 : decode cX8_goesAlong 131 = .ok (.iastore, 1) := by decide +kernel
theorem dX8_goesAlong_132 : decode cX8_goesAlong 132 = .ok (.aload_n 0, 1) := by decide +kernel
theorem dX8_goesAlong_133 : decode cX8_goesAlong 133 = .ok (.getfield 17, 3) := by decide +kernel
theorem dX8_goesAlong_136 : decode cX8_goesAlong 136 = .ok (.iload 8, 2) := by decide +kernel
theorem dX8_goesAlong_138 : decode cX8_goesAlong 138 = .ok (.iaload, 1) := by decide +kernel
theorem dX8_goesAlong_139 : decode cX8_goesAlong 139 = .ok (.iload_n 2, 1) := by decide +kernel
theorem dX8_goesAlong_140 : decode cX8_goesAlong 140 = .ok (.if_icmp .ne 37, 3) := by decide +kernel
theorem dX8_goesAlong_143 : decode cX8_goesAlong 143 = .ok (.iload 5, 2) := by decide +kernel
theorem dX8_goesAlong_145 : decode cX8_goesAlong 145 = .ok (.iload 9, 2) := by decide +kernel
theorem dX8_goesAlong_147 : decode cX8_goesAlong 147 = .ok (.iload_n 3, 1) := by decide +kernel
theorem dX8_goesAlong_148 : decode cX8_goesAlong 148 = .ok (.if_icmp .gt 7, 3) := by decide +kernel
theorem dX8_goesAlong_151 : decode cX8_goesAlong 151 = .ok (.iconst 1, 1) := by decide +kernel
theorem dX8_goesAlong_152 : decode cX8_goesAlong 152 = .ok (.goto 4, 3) := by decide +kernel
theorem dX8_goesAlong_155 : decode cX8_goesAlong 155 = .ok (.iconst 0, 1) := by decide +kernel
theorem dX8_goesAlong_156 : decode cX8_goesAlong 156 = .ok (.iadd, 1) := by decide +kernel
theorem dX8_goesAlong_157 : decode cX8_goesAlong 157 = .ok (.istore 5, 2) := by decide +kernel
theorem dX8_goesAlong_159 : decode cX8_goesAlong 159 = .ok (.iload 4, 2) := by decide +kernel
theorem dX8_goesAlong_161 : decode cX8_goesAlong 161 = .ok (.ifCond .eq 64, 3) := by decide +kernel
theorem dX8_goesAlong_164 : decode cX8_goesAlong 164 = .ok (.aload_n 0, 1) := by decide +kernel
theorem dX8_goesAlong_165 : decode cX8_goesAlong 165 = .ok (.iload 6, 2) := by decide +kernel
theorem dX8_goesAlong_167 : decode cX8_goesAlong 167 = .ok (.iconst 1, 1) := by decide +kernel
theorem dX8_goesAlong_168 : decode cX8_goesAlong 168 = .ok (.iadd, 1) := by decide +kernel
theorem dX8_goesAlong_169 : decode cX8_goesAlong 169 = .ok (.iload 9, 2) := by decide +kernel
theorem dX8_goesAlong_171 : decode cX8_goesAlong 171 = .ok (.invokevirtual 156, 3) := by decide +kernel
theorem dX8_goesAlong_174 : decode cX8_goesAlong 174 = .ok (.goto 51, 3) := by decide +kernel
theorem dX8_goesAlong_177 : decode cX8_goesAlong 177 = .ok (.iinc 6 1, 3) := by decide +kernel
theorem dX8_goesAlong_180 : decode cX8_goesAlong 180 = .ok (.aload_n 0, 1) := by decide +kernel
theorem dX8_goesAlong_181 : decode cX8_goesAlong 181 = .ok (.getfield 39, 3) := by decide +kernel
theorem dX8_goesAlong_184 : decode cX8_goesAlong 184 = .ok (.iload 6, 2) := by decide +kernel
theorem dX8_goesAlong_186 : decode cX8_goesAlong 186 = .ok (.aload_n 0, 1) := by decide +kernel
theorem dX8_goesAlong_187 : decode cX8_goesAlong 187 = .ok (.getfield 17, 3) := by decide +kernel
theorem dX8_goesAlong_190 : decode cX8_goesAlong 190 = .ok (.iload 8, 2) := by decide +kernel
theorem dX8_goesAlong_192 : decode cX8_goesAlong 192 = .ok (.iaload, 1) := by decide +kernel
theorem dX8_goesAlong_193 : decode cX8_goesAlong 193 = .ok (.iastore, 1) := by decide +kernel
theorem dX8_goesAlong_194 : decode cX8_goesAlong 194 = .ok (.iload 7, 2) := by decide +kernel
theorem dX8_goesAlong_196 : decode cX8_goesAlong 196 = .ok (.iconst 1, 1) := by decide +kernel
theorem dX8_goesAlong_197 : decode cX8_goesAlong 197 = .ok (.aload_n 0, 1) := by decide +kernel
theorem dX8_goesAlong_198 : decode cX8_goesAlong 198 = .ok (.getfield 17, 3) := by decide +kernel
theorem dX8_goesAlong_201 : decode cX8_goesAlong 201 = .ok (.iload 8, 2) := by decide +kernel
theorem dX8_goesAlong_203 : decode cX8_goesAlong 203 = .ok (.iaload, 1) := by decide +kernel
theorem dX8_goesAlong_204 : decode cX8_goesAlong 204 = .ok (.ishl, 1) := by decide +kernel
theorem dX8_goesAlong_205 : decode cX8_goesAlong 205 = .ok (.ior, 1) := by decide +kernel
theorem dX8_goesAlong_206 : decode cX8_goesAlong 206 = .ok (.istore 7, 2) := by decide +kernel
theorem dX8_goesAlong_208 : decode cX8_goesAlong 208 = .ok (.aload_n 0, 1) := by decide +kernel
theorem dX8_goesAlong_209 : decode cX8_goesAlong 209 = .ok (.getfield 42, 3) := by decide +kernel
theorem dX8_goesAlong_212 : decode cX8_goesAlong 212 = .ok (.iload 6, 2) := by decide +kernel
theorem dX8_goesAlong_214 : decode cX8_goesAlong 214 = .ok (.iload 9, 2) := by decide +kernel
theorem dX8_goesAlong_216 : decode cX8_goesAlong 216 = .ok (.iastore, 1) := by decide +kernel
theorem dX8_goesAlong_217 : decode cX8_goesAlong 217 = .ok (.aload_n 0, 1) := by decide +kernel
theorem dX8_goesAlong_218 : decode cX8_goesAlong 218 = .ok (.getfield 45, 3) := by decide +kernel
theorem dX8_goesAlong_221 : decode cX8_goesAlong 221 = .ok (.iload 6, 2) := by decide +kernel
theorem dX8_goesAlong_223 : decode cX8_goesAlong 223 = .ok (.iconst 0, 1) := by decide +kernel
theorem dX8_goesAlong_224 : decode cX8_goesAlong 224 = .ok (.iastore, 1) := by decide +kernel
theorem dX8_goesAlong_225 : decode cX8_goesAlong 225 = .ok (.goto (-193), 3) := by decide +kernel
theorem dX8_goesAlong_228 : decode cX8_goesAlong 228 = .ok (.iload 5, 2) := by decide +kernel
theorem dX8_goesAlong_230 : decode cX8_goesAlong 230 = .ok (.ireturn, 1) := by decide +kernel
theorem dX8_startPaths_0 : decode cX8_startPaths 0 = .ok (.aload_n 0, 1) := by decide +kernel
theorem dX8_startPaths_1 : decode cX8_startPaths 1 = .ok (.aload_n 0, 1) := by decide +kernel
theorem dX8_startPaths_2 : decode cX8_startPaths 2 = .ok (.iload_n 1, 1) := by decide +kernel
theorem dX8_startPaths_3 : decode cX8_startPaths 3 = .ok (.iload_n 2, 1) := by decide +kernel
theorem dX8_startPaths_4 : decode cX8_startPaths 4 = .ok (.invokevirtual 121, 3) := by decide +kernel
theorem dX8_startPaths_7 : decode cX8_startPaths 7 = .ok (.ifCond .eq 7, 3) := by decide +kernel
theorem dX8_startPaths_10 : decode cX8_startPaths 10 = .ok (.iconst 0, 1) := by decide +kernel
theorem dX8_startPaths_11 : decode cX8_startPaths 11 = .ok (.goto 4, 3) := by decide +kernel
theorem dX8_startPaths_14 : decode cX8_startPaths 14 = .ok (.iconst 1, 1) := by decide +kernel
theorem dX8_startPaths_15 : decode cX8_startPaths 15 = .ok (.invokevirtual 115, 3) := by decide +kernel
theorem dX8_startPaths_18 : decode cX8_startPaths 18 = .ok (.ifCond .eq 28, 3) := by decide +kernel
theorem dX8_startPaths_21 : decode cX8_startPaths 21 = .ok (.aload_n 0, 1) := by decide +kernel
theorem dX8_startPaths_22 : decode cX8_startPaths 22 = .ok (.iconst 1, 1) := by decide +kernel
theorem dX8_startPaths_23 : decode cX8_startPaths 23 = .ok (.putfield 108, 3) := by decide +kernel
theorem dX8_startPaths_26 : decode cX8_startPaths 26 = .ok (.aload_n 0, 1) := by decide +kernel
theorem dX8_startPaths_27 : decode cX8_startPaths 27 = .ok (.iload_n 1, 1) := by decide +kernel
theorem dX8_startPaths_28 : decode cX8_startPaths 28 = .ok (.putfield 160, 3) := by decide +kernel
theorem dX8_startPaths_31 : decode cX8_startPaths 31 = .ok (.aload_n 0, 1) := by decide +kernel
theorem dX8_startPaths_32 : decode cX8_startPaths 32 = .ok (.iload_n 2, 1) := by decide +kernel
theorem dX8_startPaths_33 : decode cX8_startPaths 33 = .ok (.putfield 163, 3) := by decide +kernel
theorem dX8_startPaths_36 : decode cX8_startPaths 36 = .ok (.aload_n 0, 1) := by decide +kernel
theorem dX8_startPaths_37 : decode cX8_startPaths 37 = .ok (.iconst 0, 1) := by decide +kernel
theorem dX8_startPaths_38 : decode cX8_startPaths 38 = .ok (.putfield 138, 3) := by decide +kernel
theorem dX8_startPaths_41 : decode cX8_startPaths 41 = .ok (.aload_n 0, 1) := by decide +kernel
theorem dX8_startPaths_42 : decode cX8_startPaths 42 = .ok (.iconst 0, 1) := by decide +kernel
theorem dX8_startPaths_43 : decode cX8_startPaths 43 = .ok (.putfield 135, 3) := by decide +kernel
theorem dX8_startPaths_46 : decode cX8_startPaths 46 = .ok (.return_, 1) := by decide +kernel
theorem dX8_nextPath_0 : decode cX8_nextPath 0 = .ok (.aload_n 0, 1) := by decide +kernel
theorem dX8_nextPath_1 : decode cX8_nextPath 1 = .ok (.iconst 0, 1) := by decide +kernel
theorem dX8_nextPath_2 : decode cX8_nextPath 2 = .ok (.putfield 147, 3) := by decide +kernel
theorem dX8_nextPath_5 : decode cX8_nextPath 5 = .ok (.aload_n 0, 1) := by decide +kernel
theorem dX8_nextPath_6 : decode cX8_nextPath 6 = .ok (.getfield 108, 3) := by decide +kernel
theorem dX8_nextPath_9 : decode cX8_nextPath 9 = .ok (.ifCond .eq 20, 3) := by decide +kernel
theorem dX8_nextPath_12 : decode cX8_nextPath 12 = .ok (.aload_n 0, 1) := by decide +kernel
theorem dX8_nextPath_13 : decode cX8_nextPath 13 = .ok (.aload_n 0, 1) := by decide +kernel
theorem dX8_nextPath_14 : decode cX8_nextPath 14 = .ok (.getfield 160, 3) := by decide +kernel
theorem dX8_nextPath_17 : decode cX8_nextPath 17 = .ok (.aload_n 0, 1) := by decide +kernel
theorem dX8_nextPath_18 : decode cX8_nextPath 18 = .ok (.getfield 163, 3) := by decide +kernel
theorem dX8_nextPath_21 : decode cX8_nextPath 21 = .ok (.iconst 0, 1) := by decide +kernel
theorem dX8_nextPath_22 : decode cX8_nextPath 22 = .ok (.iconst 1, 1) := by decide +kernel
theorem dX8_nextPath_23 : decode cX8_nextPath 23 = .ok (.invokevirtual 166, 3) := by decide +kernel
theorem dX8_nextPath_26 : decode cX8_nextPath 26 = .ok (.goto 4, 3) := by decide +kernel
theorem dX8_nextPath_29 : decode cX8_nextPath 29 = .ok (.iconst 0, 1) := by decide +kernel
theorem dX8_nextPath_30 : decode cX8_nextPath 30 = .ok (.istore_n 1, 1) := by decide +kernel
theorem dX8_nextPath_31 : decode cX8_nextPath 31 = .ok (.aload_n 0, 1) := by decide +kernel
theorem dX8_nextPath_32 : decode cX8_nextPath 32 = .ok (.aload_n 0, 1) := by decide +kernel
theorem dX8_nextPath_33 : decode cX8_nextPath 33 = .ok (.getfield 108, 3) := by decide +kernel
theorem dX8_nextPath_36 : decode cX8_nextPath 36 = .ok (.ifCond .ne 7, 3) := by decide +kernel
theorem dX8_nextPath_39 : decode cX8_nextPath 39 = .ok (.iconst 1, 1) := by decide +kernel
theorem dX8_nextPath_40 : decode cX8_nextPath 40 = .ok (.goto 15, 3) := by decide +kernel
theorem dX8_nextPath_43 : decode cX8_nextPath 43 = .ok (.aload_n 0, 1) := by decide +kernel
theorem dX8_nextPath_44 : decode cX8_nextPath 44 = .ok (.getfield 147, 3) := by decide +kernel
theorem dX8_nextPath_47 : decode cX8_nextPath 47 = .ok (.ifCond .ne 7, 3) := by decide +kernel
theorem dX8_nextPath_50 : decode cX8_nextPath 50 = .ok (.iconst 2, 1) := by decide +kernel
theorem dX8_nextPath_51 : decode cX8_nextPath 51 = .ok (.goto 4, 3) := by decide +kernel
theorem dX8_nextPath_54 : decode cX8_nextPath 54 = .ok (.iconst 0, 1) := by decide +kernel
theorem dX8_nextPath_55 : decode cX8_nextPath 55 = .ok (.invokevirtual 115, 3) := by decide +kernel
theorem dX8_nextPath_58 : decode cX8_nextPath 58 = .ok (.ifCond .ne 5, 3) := by decide +kernel
theorem dX8_nextPath_61 : decode cX8_nextPath 61 = .ok (.iconst 0, 1) := by decide +kernel
theorem dX8_nextPath_62 : decode cX8_nextPath 62 = .ok (.ireturn, 1) := by decide +kernel
theorem dX8_nextPath_63 : decode cX8_nextPath 63 = .ok (.aload_n 0, 1) := by decide +kernel
theorem dX8_nextPath_64 : decode cX8_nextPath 64 = .ok (.aload_n 0, 1) := by decide +kernel
theorem dX8_nextPath_65 : decode cX8_nextPath 65 = .ok (.getfield 147, 3) := by decide +kernel
theorem dX8_nextPath_68 : decode cX8_nextPath 68 = .ok (.putfield 135, 3) := by decide +kernel
theorem dX8_nextPath_71 : decode cX8_nextPath 71 = .ok (.aload_n 0, 1) := by decide +kernel
theorem dX8_nextPath_72 : decode cX8_nextPath 72 = .ok (.aload_n 0, 1) := by decide +kernel
theorem dX8_nextPath_73 : decode cX8_nextPath 73 = .ok (.getfield 150, 3) := by decide +kernel
theorem dX8_nextPath_76 : decode cX8_nextPath 76 = .ok (.putfield 141, 3) := by decide +kernel
theorem dX8_nextPath_79 : decode cX8_nextPath 79 = .ok (.aload_n 0, 1) := by decide +kernel
theorem dX8_nextPath_80 : decode cX8_nextPath 80 = .ok (.dup, 1) := by decide +kernel
theorem dX8_nextPath_81 : decode cX8_nextPath 81 = .ok (.getfield 138, 3) := by decide +kernel
theorem dX8_nextPath_84 : decode cX8_nextPath 84 = .ok (.iconst 1, 1) := by decide +kernel
theorem dX8_nextPath_85 : decode cX8_nextPath 85 = .ok (.iadd, 1) := by decide +kernel
theorem dX8_nextPath_86 : decode cX8_nextPath 86 = .ok (.putfield 138, 3) := by decide +kernel
theorem dX8_nextPath_89 : decode cX8_nextPath 89 = .ok (.iconst 0, 1) := by decide +kernel
theorem dX8_nextPath_90 : decode cX8_nextPath 90 = .ok (.istore_n 2, 1) := by decide +kernel
theorem dX8_nextPath_91 : decode cX8_nextPath 91 = .ok (.iload_n 2, 1) := by decide +kernel
theorem dX8_nextPath_92 : decode cX8_nextPath 92 = .ok (.aload_n 0, 1) := by decide +kernel
theorem dX8_nextPath_93 : decode cX8_nextPath 93 = .ok (.getfield 135, 3) := by decide +kernel
theorem dX8_nextPath_96 : decode cX8_nextPath 96 = .ok (.if_icmp .ge 21, 3) := by decide +kernel
theorem dX8_nextPath_99 : decode cX8_nextPath 99 = .ok (.aload_n 0, 1) := by decide +kernel
theorem dX8_nextPath_100 : decode cX8_nextPath 100 = .ok (.getfield 33, 3) := by decide +kernel
theorem dX8_nextPath_103 : decode cX8_nextPath 103 = .ok (.iload_n 2, 1) := by decide +kernel
theorem dX8_nextPath_104 : decode cX8_nextPath 104 = .ok (.aload_n 0, 1) := by decide +kernel
theorem dX8_nextPath_105 : decode cX8_nextPath 105 = .ok (.getfield 48, 3) := by decide +kernel
theorem dX8_nextPath_108 : decode cX8_nextPath 108 = .ok (.iload_n 2, 1) := by decide +kernel
theorem dX8_nextPath_109 : decode cX8_nextPath 109 = .ok (.iaload, 1) := by decide +kernel
theorem dX8_nextPath_110 : decode cX8_nextPath 110 = .ok (.iastore, 1) := by decide +kernel
theorem dX8_nextPath_111 : decode cX8_nextPath 111 = .ok (.iinc 2 1, 3) := by decide +kernel
theorem dX8_nextPath_114 : decode cX8_nextPath 114 = .ok (.goto (-23), 3) := by decide +kernel
theorem dX8_nextPath_117 : decode cX8_nextPath 117 = .ok (.aload_n 0, 1) := by decide +kernel
theorem dX8_nextPath_118 : decode cX8_nextPath 118 = .ok (.getfield 141, 3) := by decide +kernel
theorem dX8_nextPath_121 : decode cX8_nextPath 121 = .ok (.ireturn, 1) := by decide +kernel
theorem dX8_pathsDrawn_0 : decode cX8_pathsDrawn 0 = .ok (.aload_n 0, 1) := by decide +kernel
theorem dX8_pathsDrawn_1 : decode cX8_pathsDrawn 1 = .ok (.aload_n 0, 1) := by decide +kernel
theorem dX8_pathsDrawn_2 : decode cX8_pathsDrawn 2 = .ok (.getfield 108, 3) := by decide +kernel
theorem dX8_pathsDrawn_5 : decode cX8_pathsDrawn 5 = .ok (.ifCond .eq 7, 3) := by decide +kernel
theorem dX8_pathsDrawn_8 : decode cX8_pathsDrawn 8 = .ok (.iconst 0, 1) := by decide +kernel
theorem dX8_pathsDrawn_9 : decode cX8_pathsDrawn 9 = .ok (.goto 4, 3) := by decide +kernel
theorem dX8_pathsDrawn_12 : decode cX8_pathsDrawn 12 = .ok (.iconst 1, 1) := by decide +kernel
theorem dX8_pathsDrawn_13 : decode cX8_pathsDrawn 13 = .ok (.invokevirtual 115, 3) := by decide +kernel
theorem dX8_pathsDrawn_16 : decode cX8_pathsDrawn 16 = .ok (.ifCond .eq 10, 3) := by decide +kernel
theorem dX8_pathsDrawn_19 : decode cX8_pathsDrawn 19 = .ok (.aload_n 0, 1) := by decide +kernel
theorem dX8_pathsDrawn_20 : decode cX8_pathsDrawn 20 = .ok (.getfield 138, 3) := by decide +kernel
theorem dX8_pathsDrawn_23 : decode cX8_pathsDrawn 23 = .ok (.goto 4, 3) := by decide +kernel
theorem dX8_pathsDrawn_26 : decode cX8_pathsDrawn 26 = .ok (.iconst 0, 1) := by decide +kernel
theorem dX8_pathsDrawn_27 : decode cX8_pathsDrawn 27 = .ok (.ireturn, 1) := by decide +kernel
theorem dX8_pathEdges_0 : decode cX8_pathEdges 0 = .ok (.aload_n 0, 1) := by decide +kernel
theorem dX8_pathEdges_1 : decode cX8_pathEdges 1 = .ok (.aload_n 0, 1) := by decide +kernel
theorem dX8_pathEdges_2 : decode cX8_pathEdges 2 = .ok (.getfield 108, 3) := by decide +kernel
theorem dX8_pathEdges_5 : decode cX8_pathEdges 5 = .ok (.ifCond .ne 7, 3) := by decide +kernel
theorem dX8_pathEdges_8 : decode cX8_pathEdges 8 = .ok (.iconst 1, 1) := by decide +kernel
theorem dX8_pathEdges_9 : decode cX8_pathEdges 9 = .ok (.goto 15, 3) := by decide +kernel
theorem dX8_pathEdges_12 : decode cX8_pathEdges 12 = .ok (.aload_n 0, 1) := by decide +kernel
theorem dX8_pathEdges_13 : decode cX8_pathEdges 13 = .ok (.getfield 138, 3) := by decide +kernel
theorem dX8_pathEdges_16 : decode cX8_pathEdges 16 = .ok (.ifCond .ne 7, 3) := by decide +kernel
theorem dX8_pathEdges_19 : decode cX8_pathEdges 19 = .ok (.iconst 2, 1) := by decide +kernel
theorem dX8_pathEdges_20 : decode cX8_pathEdges 20 = .ok (.goto 4, 3) := by decide +kernel
theorem dX8_pathEdges_23 : decode cX8_pathEdges 23 = .ok (.iconst 0, 1) := by decide +kernel
theorem dX8_pathEdges_24 : decode cX8_pathEdges 24 = .ok (.invokevirtual 115, 3) := by decide +kernel
theorem dX8_pathEdges_27 : decode cX8_pathEdges 27 = .ok (.ifCond .eq 10, 3) := by decide +kernel
theorem dX8_pathEdges_30 : decode cX8_pathEdges 30 = .ok (.aload_n 0, 1) := by decide +kernel
theorem dX8_pathEdges_31 : decode cX8_pathEdges 31 = .ok (.getfield 135, 3) := by decide +kernel
theorem dX8_pathEdges_34 : decode cX8_pathEdges 34 = .ok (.goto 4, 3) := by decide +kernel
theorem dX8_pathEdges_37 : decode cX8_pathEdges 37 = .ok (.iconst 0, 1) := by decide +kernel
theorem dX8_pathEdges_38 : decode cX8_pathEdges 38 = .ok (.ireturn, 1) := by decide +kernel
theorem dX8_pathEdge_0 : decode cX8_pathEdge 0 = .ok (.aload_n 0, 1) := by decide +kernel
theorem dX8_pathEdge_1 : decode cX8_pathEdge 1 = .ok (.aload_n 0, 1) := by decide +kernel
theorem dX8_pathEdge_2 : decode cX8_pathEdge 2 = .ok (.getfield 108, 3) := by decide +kernel
theorem dX8_pathEdge_5 : decode cX8_pathEdge 5 = .ok (.ifCond .ne 7, 3) := by decide +kernel
theorem dX8_pathEdge_8 : decode cX8_pathEdge 8 = .ok (.iconst 1, 1) := by decide +kernel
theorem dX8_pathEdge_9 : decode cX8_pathEdge 9 = .ok (.goto 22, 3) := by decide +kernel
theorem dX8_pathEdge_12 : decode cX8_pathEdge 12 = .ok (.iload_n 1, 1) := by decide +kernel
theorem dX8_pathEdge_13 : decode cX8_pathEdge 13 = .ok (.iconst 0, 1) := by decide +kernel
theorem dX8_pathEdge_14 : decode cX8_pathEdge 14 = .ok (.aload_n 0, 1) := by decide +kernel
theorem dX8_pathEdge_15 : decode cX8_pathEdge 15 = .ok (.getfield 135, 3) := by decide +kernel
theorem dX8_pathEdge_18 : decode cX8_pathEdge 18 = .ok (.iconst 1, 1) := by decide +kernel
theorem dX8_pathEdge_19 : decode cX8_pathEdge 19 = .ok (.isub, 1) := by decide +kernel
theorem dX8_pathEdge_20 : decode cX8_pathEdge 20 = .ok (.invokestatic 93, 3) := by decide +kernel
theorem dX8_pathEdge_23 : decode cX8_pathEdge 23 = .ok (.ifCond .eq 7, 3) := by decide +kernel
theorem dX8_pathEdge_26 : decode cX8_pathEdge 26 = .ok (.iconst 0, 1) := by decide +kernel
theorem dX8_pathEdge_27 : decode cX8_pathEdge 27 = .ok (.goto 4, 3) := by decide +kernel
theorem dX8_pathEdge_30 : decode cX8_pathEdge 30 = .ok (.iconst 2, 1) := by decide +kernel
theorem dX8_pathEdge_31 : decode cX8_pathEdge 31 = .ok (.invokevirtual 115, 3) := by decide +kernel
theorem dX8_pathEdge_34 : decode cX8_pathEdge 34 = .ok (.ifCond .eq 12, 3) := by decide +kernel
theorem dX8_pathEdge_37 : decode cX8_pathEdge 37 = .ok (.aload_n 0, 1) := by decide +kernel
theorem dX8_pathEdge_38 : decode cX8_pathEdge 38 = .ok (.getfield 33, 3) := by decide +kernel
theorem dX8_pathEdge_41 : decode cX8_pathEdge 41 = .ok (.iload_n 1, 1) := by decide +kernel
theorem dX8_pathEdge_42 : decode cX8_pathEdge 42 = .ok (.iaload, 1) := by decide +kernel
theorem dX8_pathEdge_43 : decode cX8_pathEdge 43 = .ok (.goto 4, 3) := by decide +kernel
theorem dX8_pathEdge_46 : decode cX8_pathEdge 46 = .ok (.iconst 0, 1) := by decide +kernel
theorem dX8_pathEdge_47 : decode cX8_pathEdge 47 = .ok (.ireturn, 1) := by decide +kernel
theorem dX8_countPaths_0 : decode cX8_countPaths 0 = .ok (.aload_n 0, 1) := by decide +kernel
theorem dX8_countPaths_1 : decode cX8_countPaths 1 = .ok (.aload_n 0, 1) := by decide +kernel
theorem dX8_countPaths_2 : decode cX8_countPaths 2 = .ok (.iload_n 1, 1) := by decide +kernel
theorem dX8_countPaths_3 : decode cX8_countPaths 3 = .ok (.iload_n 2, 1) := by decide +kernel
theorem dX8_countPaths_4 : decode cX8_countPaths 4 = .ok (.invokevirtual 121, 3) := by decide +kernel
theorem dX8_countPaths_7 : decode cX8_countPaths 7 = .ok (.ifCond .eq 17, 3) := by decide +kernel
theorem dX8_countPaths_10 : decode cX8_countPaths 10 = .ok (.iload_n 3, 1) := by decide +kernel
theorem dX8_countPaths_11 : decode cX8_countPaths 11 = .ok (.iconst 0, 1) := by decide +kernel
theorem dX8_countPaths_12 : decode cX8_countPaths 12 = .ok (.ldc 170, 2) := by decide +kernel
theorem dX8_countPaths_14 : decode cX8_countPaths 14 = .ok (.invokestatic 93, 3) := by decide +kernel
theorem dX8_countPaths_17 : decode cX8_countPaths 17 = .ok (.ifCond .eq 7, 3) := by decide +kernel
theorem dX8_countPaths_20 : decode cX8_countPaths 20 = .ok (.iconst 0, 1) := by decide +kernel
theorem dX8_countPaths_21 : decode cX8_countPaths 21 = .ok (.goto 4, 3) := by decide +kernel
theorem dX8_countPaths_24 : decode cX8_countPaths 24 = .ok (.iconst 1, 1) := by decide +kernel
theorem dX8_countPaths_25 : decode cX8_countPaths 25 = .ok (.invokevirtual 115, 3) := by decide +kernel
theorem dX8_countPaths_28 : decode cX8_countPaths 28 = .ok (.ifCond .eq 14, 3) := by decide +kernel
theorem dX8_countPaths_31 : decode cX8_countPaths 31 = .ok (.aload_n 0, 1) := by decide +kernel
theorem dX8_countPaths_32 : decode cX8_countPaths 32 = .ok (.iload_n 1, 1) := by decide +kernel
theorem dX8_countPaths_33 : decode cX8_countPaths 33 = .ok (.iload_n 2, 1) := by decide +kernel
theorem dX8_countPaths_34 : decode cX8_countPaths 34 = .ok (.iload_n 3, 1) := by decide +kernel
theorem dX8_countPaths_35 : decode cX8_countPaths 35 = .ok (.iconst 0, 1) := by decide +kernel
theorem dX8_countPaths_36 : decode cX8_countPaths 36 = .ok (.invokevirtual 166, 3) := by decide +kernel
theorem dX8_countPaths_39 : decode cX8_countPaths 39 = .ok (.goto 4, 3) := by decide +kernel
theorem dX8_countPaths_42 : decode cX8_countPaths 42 = .ok (.iconst 0, 1) := by decide +kernel
theorem dX8_countPaths_43 : decode cX8_countPaths 43 = .ok (.ireturn, 1) := by decide +kernel
theorem dX8_waitsAt_0 : decode cX8_waitsAt 0 = .ok (.aload_n 0, 1) := by decide +kernel
theorem dX8_waitsAt_1 : decode cX8_waitsAt 1 = .ok (.getfield 63, 3) := by decide +kernel
theorem dX8_waitsAt_4 : decode cX8_waitsAt 4 = .ok (.aload_n 0, 1) := by decide +kernel
theorem dX8_waitsAt_5 : decode cX8_waitsAt 5 = .ok (.getfield 171, 3) := by decide +kernel
theorem dX8_waitsAt_8 : decode cX8_waitsAt 8 = .ok (.iload_n 1, 1) := by decide +kernel
theorem dX8_waitsAt_9 : decode cX8_waitsAt 9 = .ok (.iastore, 1) := by decide +kernel
theorem dX8_waitsAt_10 : decode cX8_waitsAt 10 = .ok (.aload_n 0, 1) := by decide +kernel
theorem dX8_waitsAt_11 : decode cX8_waitsAt 11 = .ok (.getfield 60, 3) := by decide +kernel
theorem dX8_waitsAt_14 : decode cX8_waitsAt 14 = .ok (.aload_n 0, 1) := by decide +kernel
theorem dX8_waitsAt_15 : decode cX8_waitsAt 15 = .ok (.getfield 171, 3) := by decide +kernel
theorem dX8_waitsAt_18 : decode cX8_waitsAt 18 = .ok (.iload_n 2, 1) := by decide +kernel
theorem dX8_waitsAt_19 : decode cX8_waitsAt 19 = .ok (.iastore, 1) := by decide +kernel
theorem dX8_waitsAt_20 : decode cX8_waitsAt 20 = .ok (.aload_n 0, 1) := by decide +kernel
theorem dX8_waitsAt_21 : decode cX8_waitsAt 21 = .ok (.dup, 1) := by decide +kernel
theorem dX8_waitsAt_22 : decode cX8_waitsAt 22 = .ok (.getfield 171, 3) := by decide +kernel
theorem dX8_waitsAt_25 : decode cX8_waitsAt 25 = .ok (.iconst 1, 1) := by decide +kernel
theorem dX8_waitsAt_26 : decode cX8_waitsAt 26 = .ok (.iadd, 1) := by decide +kernel
theorem dX8_waitsAt_27 : decode cX8_waitsAt 27 = .ok (.putfield 171, 3) := by decide +kernel
theorem dX8_waitsAt_30 : decode cX8_waitsAt 30 = .ok (.return_, 1) := by decide +kernel
theorem dX8_laysFirsts_0 : decode cX8_laysFirsts 0 = .ok (.iconst 0, 1) := by decide +kernel
theorem dX8_laysFirsts_1 : decode cX8_laysFirsts 1 = .ok (.istore_n 2, 1) := by decide +kernel
theorem dX8_laysFirsts_2 : decode cX8_laysFirsts 2 = .ok (.iload_n 2, 1) := by decide +kernel
theorem dX8_laysFirsts_3 : decode cX8_laysFirsts 3 = .ok (.bipush 10, 2) := by decide +kernel
theorem dX8_laysFirsts_5 : decode cX8_laysFirsts 5 = .ok (.if_icmp .ge 16, 3) := by decide +kernel
theorem dX8_laysFirsts_8 : decode cX8_laysFirsts 8 = .ok (.aload_n 0, 1) := by decide +kernel
theorem dX8_laysFirsts_9 : decode cX8_laysFirsts 9 = .ok (.getfield 57, 3) := by decide +kernel
theorem dX8_laysFirsts_12 : decode cX8_laysFirsts 12 = .ok (.iload_n 2, 1) := by decide +kernel
theorem dX8_laysFirsts_13 : decode cX8_laysFirsts 13 = .ok (.iconst 0, 1) := by decide +kernel
theorem dX8_laysFirsts_14 : decode cX8_laysFirsts 14 = .ok (.iastore, 1) := by decide +kernel
theorem dX8_laysFirsts_15 : decode cX8_laysFirsts 15 = .ok (.iinc 2 1, 3) := by decide +kernel
theorem dX8_laysFirsts_18 : decode cX8_laysFirsts 18 = .ok (.goto (-16), 3) := by decide +kernel
theorem dX8_laysFirsts_21 : decode cX8_laysFirsts 21 = .ok (.aload_n 0, 1) := by decide +kernel
theorem dX8_laysFirsts_22 : decode cX8_laysFirsts 22 = .ok (.iconst 0, 1) := by decide +kernel
theorem dX8_laysFirsts_23 : decode cX8_laysFirsts 23 = .ok (.putfield 171, 3) := by decide +kernel
theorem dX8_laysFirsts_26 : decode cX8_laysFirsts 26 = .ok (.aload_n 0, 1) := by decide +kernel
theorem dX8_laysFirsts_27 : decode cX8_laysFirsts 27 = .ok (.iload_n 1, 1) := by decide +kernel
theorem dX8_laysFirsts_28 : decode cX8_laysFirsts 28 = .ok (.iconst 0, 1) := by decide +kernel
theorem dX8_laysFirsts_29 : decode cX8_laysFirsts 29 = .ok (.invokevirtual 174, 3) := by decide +kernel
theorem dX8_laysFirsts_32 : decode cX8_laysFirsts 32 = .ok (.aload_n 0, 1) := by decide +kernel
theorem dX8_laysFirsts_33 : decode cX8_laysFirsts 33 = .ok (.getfield 171, 3) := by decide +kernel
theorem dX8_laysFirsts_36 : decode cX8_laysFirsts 36 = .ok (.ifCond .le 198, 3) := by decide +kernel
theorem dX8_laysFirsts_39 : decode cX8_laysFirsts 39 = .ok (.iconst 0, 1) := by decide +kernel
theorem dX8_laysFirsts_40 : decode cX8_laysFirsts 40 = .ok (.istore_n 2, 1) := by decide +kernel
theorem dX8_laysFirsts_41 : decode cX8_laysFirsts 41 = .ok (.iconst 1, 1) := by decide +kernel
theorem dX8_laysFirsts_42 : decode cX8_laysFirsts 42 = .ok (.istore_n 3, 1) := by decide +kernel
theorem dX8_laysFirsts_43 : decode cX8_laysFirsts 43 = .ok (.iload_n 3, 1) := by decide +kernel
theorem dX8_laysFirsts_44 : decode cX8_laysFirsts 44 = .ok (.aload_n 0, 1) := by decide +kernel
theorem dX8_laysFirsts_45 : decode cX8_laysFirsts 45 = .ok (.getfield 171, 3) := by decide +kernel
theorem dX8_laysFirsts_48 : decode cX8_laysFirsts 48 = .ok (.if_icmp .ge 30, 3) := by decide +kernel
theorem dX8_laysFirsts_51 : decode cX8_laysFirsts 51 = .ok (.aload_n 0, 1) := by decide +kernel
theorem dX8_laysFirsts_52 : decode cX8_laysFirsts 52 = .ok (.getfield 60, 3) := by decide +kernel
theorem dX8_laysFirsts_55 : decode cX8_laysFirsts 55 = .ok (.iload_n 3, 1) := by decide +kernel
theorem dX8_laysFirsts_56 : decode cX8_laysFirsts 56 = .ok (.iaload, 1) := by decide +kernel
theorem dX8_laysFirsts_57 : decode cX8_laysFirsts 57 = .ok (.aload_n 0, 1) := by decide +kernel
theorem dX8_laysFirsts_58 : decode cX8_laysFirsts 58 = .ok (.getfield 60, 3) := by decide +kernel
theorem dX8_laysFirsts_61 : decode cX8_laysFirsts 61 = .ok (.iload_n 2, 1) := by decide +kernel
theorem dX8_laysFirsts_62 : decode cX8_laysFirsts 62 = .ok (.iaload, 1) := by decide +kernel
theorem dX8_laysFirsts_63 : decode cX8_laysFirsts 63 = .ok (.if_icmp .ge 7, 3) := by decide +kernel
theorem dX8_laysFirsts_66 : decode cX8_laysFirsts 66 = .ok (.iload_n 3, 1) := by decide +kernel
theorem dX8_laysFirsts_67 : decode cX8_laysFirsts 67 = .ok (.goto 4, 3) := by decide +kernel
theorem dX8_laysFirsts_70 : decode cX8_laysFirsts 70 = .ok (.iload_n 2, 1) := by decide +kernel
theorem dX8_laysFirsts_71 : decode cX8_laysFirsts 71 = .ok (.istore_n 2, 1) := by decide +kernel
theorem dX8_laysFirsts_72 : decode cX8_laysFirsts 72 = .ok (.iinc 3 1, 3) := by decide +kernel
theorem dX8_laysFirsts_75 : decode cX8_laysFirsts 75 = .ok (.goto (-32), 3) := by decide +kernel
theorem dX8_laysFirsts_78 : decode cX8_laysFirsts 78 = .ok (.aload_n 0, 1) := by decide +kernel
theorem dX8_laysFirsts_79 : decode cX8_laysFirsts 79 = .ok (.getfield 63, 3) := by decide +kernel
theorem dX8_laysFirsts_82 : decode cX8_laysFirsts 82 = .ok (.iload_n 2, 1) := by decide +kernel
theorem dX8_laysFirsts_83 : decode cX8_laysFirsts 83 = .ok (.iaload, 1) := by decide +kernel
theorem dX8_laysFirsts_84 : decode cX8_laysFirsts 84 = .ok (.istore_n 3, 1) := by decide +kernel
theorem dX8_laysFirsts_85 : decode cX8_laysFirsts 85 = .ok (.aload_n 0, 1) := by decide +kernel
theorem dX8_laysFirsts_86 : decode cX8_laysFirsts 86 = .ok (.getfield 60, 3) := by decide +kernel
theorem dX8_laysFirsts_89 : decode cX8_laysFirsts 89 = .ok (.iload_n 2, 1) := by decide +kernel
theorem dX8_laysFirsts_90 : decode cX8_laysFirsts 90 = .ok (.iaload, 1) := by decide +kernel
theorem dX8_laysFirsts_91 : decode cX8_laysFirsts 91 = .ok (.istore 4, 2) := by decide +kernel
theorem dX8_laysFirsts_93 : decode cX8_laysFirsts 93 = .ok (.aload_n 0, 1) := by decide +kernel
theorem dX8_laysFirsts_94 : decode cX8_laysFirsts 94 = .ok (.dup, 1) := by decide +kernel
theorem dX8_laysFirsts_95 : decode cX8_laysFirsts 95 = .ok (.getfield 171, 3) := by decide +kernel
theorem dX8_laysFirsts_98 : decode cX8_laysFirsts 98 = .ok (.iconst 1, 1) := by decide +kernel
theorem dX8_laysFirsts_99 : decode cX8_laysFirsts 99 = .ok (.isub, 1) := by decide +kernel
theorem dX8_laysFirsts_100 : decode cX8_laysFirsts 100 = .ok (.putfield 171, 3) := by decide +kernel
theorem dX8_laysFirsts_103 : decode cX8_laysFirsts 103 = .ok (.aload_n 0, 1) := by decide +kernel
theorem dX8_laysFirsts_104 : decode cX8_laysFirsts 104 = .ok (.getfield 63, 3) := by decide +kernel
theorem dX8_laysFirsts_107 : decode cX8_laysFirsts 107 = .ok (.iload_n 2, 1) := by decide +kernel
theorem dX8_laysFirsts_108 : decode cX8_laysFirsts 108 = .ok (.aload_n 0, 1) := by decide +kernel
theorem dX8_laysFirsts_109 : decode cX8_laysFirsts 109 = .ok (.getfield 63, 3) := by decide +kernel
theorem dX8_laysFirsts_112 : decode cX8_laysFirsts 112 = .ok (.aload_n 0, 1) := by decide +kernel
theorem dX8_laysFirsts_113 : decode cX8_laysFirsts 113 = .ok (.getfield 171, 3) := by decide +kernel
theorem dX8_laysFirsts_116 : decode cX8_laysFirsts 116 = .ok (.iaload, 1) := by decide +kernel
theorem dX8_laysFirsts_117 : decode cX8_laysFirsts 117 = .ok (.iastore, 1) := by decide +kernel
theorem dX8_laysFirsts_118 : decode cX8_laysFirsts 118 = .ok (.aload_n 0, 1) := by decide +kernel
theorem dX8_laysFirsts_119 : decode cX8_laysFirsts 119 = .ok (.getfield 60, 3) := by decide +kernel
theorem dX8_laysFirsts_122 : decode cX8_laysFirsts 122 = .ok (.iload_n 2, 1) := by decide +kernel
theorem dX8_laysFirsts_123 : decode cX8_laysFirsts 123 = .ok (.aload_n 0, 1) := by decide +kernel
theorem dX8_laysFirsts_124 : decode cX8_laysFirsts 124 = .ok (.getfield 60, 3) := by decide +kernel
theorem dX8_laysFirsts_127 : decode cX8_laysFirsts 127 = .ok (.aload_n 0, 1) := by decide +kernel
theorem dX8_laysFirsts_128 : decode cX8_laysFirsts 128 = .ok (.getfield 171, 3) := by decide +kernel
theorem dX8_laysFirsts_131 : decode cX8_laysFirsts 131 = .ok (.iaload, 1) := by decide +kernel
theorem dX8_laysFirsts_132 : decode cX8_laysFirsts 132 = .ok (.iastore, 1) := by decide +kernel
theorem dX8_laysFirsts_133 : decode cX8_laysFirsts 133 = .ok (.aload_n 0, 1) := by decide +kernel
theorem dX8_laysFirsts_134 : decode cX8_laysFirsts 134 = .ok (.getfield 57, 3) := by decide +kernel
theorem dX8_laysFirsts_137 : decode cX8_laysFirsts 137 = .ok (.iload_n 3, 1) := by decide +kernel
theorem dX8_laysFirsts_138 : decode cX8_laysFirsts 138 = .ok (.iaload, 1) := by decide +kernel
theorem dX8_laysFirsts_139 : decode cX8_laysFirsts 139 = .ok (.bipush 50, 2) := by decide +kernel
theorem dX8_laysFirsts_141 : decode cX8_laysFirsts 141 = .ok (.if_icmp .ge 90, 3) := by decide +kernel
theorem dX8_laysFirsts_144 : decode cX8_laysFirsts 144 = .ok (.aload_n 0, 1) := by decide +kernel
theorem dX8_laysFirsts_145 : decode cX8_laysFirsts 145 = .ok (.getfield 54, 3) := by decide +kernel
theorem dX8_laysFirsts_148 : decode cX8_laysFirsts 148 = .ok (.bipush 50, 2) := by decide +kernel
theorem dX8_laysFirsts_150 : decode cX8_laysFirsts 150 = .ok (.iload_n 3, 1) := by decide +kernel
theorem dX8_laysFirsts_151 : decode cX8_laysFirsts 151 = .ok (.imul, 1) := by decide +kernel
theorem dX8_laysFirsts_152 : decode cX8_laysFirsts 152 = .ok (.aload_n 0, 1) := by decide +kernel
theorem dX8_laysFirsts_153 : decode cX8_laysFirsts 153 = .ok (.getfield 57, 3) := by decide +kernel
theorem dX8_laysFirsts_156 : decode cX8_laysFirsts 156 = .ok (.iload_n 3, 1) := by decide +kernel
theorem dX8_laysFirsts_157 : decode cX8_laysFirsts 157 = .ok (.iaload, 1) := by decide +kernel
theorem dX8_laysFirsts_158 : decode cX8_laysFirsts 158 = .ok (.iadd, 1) := by decide +kernel
theorem dX8_laysFirsts_159 : decode cX8_laysFirsts 159 = .ok (.iload 4, 2) := by decide +kernel
theorem dX8_laysFirsts_161 : decode cX8_laysFirsts 161 = .ok (.iastore, 1) := by decide +kernel
theorem dX8_laysFirsts_162 : decode cX8_laysFirsts 162 = .ok (.aload_n 0, 1) := by decide +kernel
theorem dX8_laysFirsts_163 : decode cX8_laysFirsts 163 = .ok (.getfield 57, 3) := by decide +kernel
theorem dX8_laysFirsts_166 : decode cX8_laysFirsts 166 = .ok (.iload_n 3, 1) := by decide +kernel
theorem dX8_laysFirsts_167 : decode cX8_laysFirsts 167 = .ok (.dup2, 1) := by decide +kernel
theorem dX8_laysFirsts_168 : decode cX8_laysFirsts 168 = .ok (.iaload, 1) := by decide +kernel
theorem dX8_laysFirsts_169 : decode cX8_laysFirsts 169 = .ok (.iconst 1, 1) := by decide +kernel
theorem dX8_laysFirsts_170 : decode cX8_laysFirsts 170 = .ok (.iadd, 1) := by decide +kernel
theorem dX8_laysFirsts_171 : decode cX8_laysFirsts 171 = .ok (.iastore, 1) := by decide +kernel
theorem dX8_laysFirsts_172 : decode cX8_laysFirsts 172 = .ok (.iconst 0, 1) := by decide +kernel
theorem dX8_laysFirsts_173 : decode cX8_laysFirsts 173 = .ok (.istore 5, 2) := by decide +kernel
theorem dX8_laysFirsts_175 : decode cX8_laysFirsts 175 = .ok (.iload 5, 2) := by decide +kernel
theorem dX8_laysFirsts_177 : decode cX8_laysFirsts 177 = .ok (.aload_n 0, 1) := by decide +kernel
theorem dX8_laysFirsts_178 : decode cX8_laysFirsts 178 = .ok (.getfield 105, 3) := by decide +kernel
theorem dX8_laysFirsts_181 : decode cX8_laysFirsts 181 = .ok (.if_icmp .ge 50, 3) := by decide +kernel
theorem dX8_laysFirsts_184 : decode cX8_laysFirsts 184 = .ok (.aload_n 0, 1) := by decide +kernel
theorem dX8_laysFirsts_185 : decode cX8_laysFirsts 185 = .ok (.iload 5, 2) := by decide +kernel
theorem dX8_laysFirsts_187 : decode cX8_laysFirsts 187 = .ok (.invokevirtual 127, 3) := by decide +kernel
theorem dX8_laysFirsts_190 : decode cX8_laysFirsts 190 = .ok (.ifCond .eq 35, 3) := by decide +kernel
theorem dX8_laysFirsts_193 : decode cX8_laysFirsts 193 = .ok (.aload_n 0, 1) := by decide +kernel
theorem dX8_laysFirsts_194 : decode cX8_laysFirsts 194 = .ok (.getfield 17, 3) := by decide +kernel
theorem dX8_laysFirsts_197 : decode cX8_laysFirsts 197 = .ok (.iload 5, 2) := by decide +kernel
theorem dX8_laysFirsts_199 : decode cX8_laysFirsts 199 = .ok (.iaload, 1) := by decide +kernel
theorem dX8_laysFirsts_200 : decode cX8_laysFirsts 200 = .ok (.iload_n 3, 1) := by decide +kernel
theorem dX8_laysFirsts_201 : decode cX8_laysFirsts 201 = .ok (.if_icmp .ne 24, 3) := by decide +kernel
theorem dX8_laysFirsts_204 : decode cX8_laysFirsts 204 = .ok (.aload_n 0, 1) := by decide +kernel
theorem dX8_laysFirsts_205 : decode cX8_laysFirsts 205 = .ok (.aload_n 0, 1) := by decide +kernel
theorem dX8_laysFirsts_206 : decode cX8_laysFirsts 206 = .ok (.getfield 13, 3) := by decide +kernel
theorem dX8_laysFirsts_209 : decode cX8_laysFirsts 209 = .ok (.iload 5, 2) := by decide +kernel
theorem dX8_laysFirsts_211 : decode cX8_laysFirsts 211 = .ok (.iaload, 1) := by decide +kernel
theorem dX8_laysFirsts_212 : decode cX8_laysFirsts 212 = .ok (.iload 4, 2) := by decide +kernel
theorem dX8_laysFirsts_214 : decode cX8_laysFirsts 214 = .ok (.aload_n 0, 1) := by decide +kernel
theorem dX8_laysFirsts_215 : decode cX8_laysFirsts 215 = .ok (.getfield 20, 3) := by decide +kernel
theorem dX8_laysFirsts_218 : decode cX8_laysFirsts 218 = .ok (.iload 5, 2) := by decide +kernel
theorem dX8_laysFirsts_220 : decode cX8_laysFirsts 220 = .ok (.iaload, 1) := by decide +kernel
theorem dX8_laysFirsts_221 : decode cX8_laysFirsts 221 = .ok (.iadd, 1) := by decide +kernel
theorem dX8_laysFirsts_222 : decode cX8_laysFirsts 222 = .ok (.invokevirtual 174, 3) := by decide +kernel
theorem dX8_laysFirsts_225 : decode cX8_laysFirsts 225 = .ok (.iinc 5 1, 3) := by decide +kernel
theorem dX8_laysFirsts_228 : decode cX8_laysFirsts 228 = .ok (.goto (-53), 3) := by decide +kernel
theorem dX8_laysFirsts_231 : decode cX8_laysFirsts 231 = .ok (.goto (-199), 3) := by decide +kernel
theorem dX8_laysFirsts_234 : decode cX8_laysFirsts 234 = .ok (.return_, 1) := by decide +kernel
theorem dX8_alike_0 : decode cX8_alike 0 = .ok (.iconst 0, 1) := by decide +kernel
theorem dX8_alike_1 : decode cX8_alike 1 = .ok (.istore_n 3, 1) := by decide +kernel
theorem dX8_alike_2 : decode cX8_alike 2 = .ok (.iconst 0, 1) := by decide +kernel
theorem dX8_alike_3 : decode cX8_alike 3 = .ok (.istore 4, 2) := by decide +kernel
theorem dX8_alike_5 : decode cX8_alike 5 = .ok (.iload 4, 2) := by decide +kernel
theorem dX8_alike_7 : decode cX8_alike 7 = .ok (.aload_n 0, 1) := by decide +kernel
theorem dX8_alike_8 : decode cX8_alike 8 = .ok (.getfield 57, 3) := by decide +kernel
theorem dX8_alike_11 : decode cX8_alike 11 = .ok (.iload_n 1, 1) := by decide +kernel
theorem dX8_alike_12 : decode cX8_alike 12 = .ok (.iaload, 1) := by decide +kernel
theorem dX8_alike_13 : decode cX8_alike 13 = .ok (.if_icmp .ge 33, 3) := by decide +kernel
theorem dX8_alike_16 : decode cX8_alike 16 = .ok (.iload_n 3, 1) := by decide +kernel
theorem dX8_alike_17 : decode cX8_alike 17 = .ok (.aload_n 0, 1) := by decide +kernel
theorem dX8_alike_18 : decode cX8_alike 18 = .ok (.getfield 54, 3) := by decide +kernel
theorem dX8_alike_21 : decode cX8_alike 21 = .ok (.bipush 50, 2) := by decide +kernel
theorem dX8_alike_23 : decode cX8_alike 23 = .ok (.iload_n 1, 1) := by decide +kernel
theorem dX8_alike_24 : decode cX8_alike 24 = .ok (.imul, 1) := by decide +kernel
theorem dX8_alike_25 : decode cX8_alike 25 = .ok (.iload 4, 2) := by decide +kernel
theorem dX8_alike_27 : decode cX8_alike 27 = .ok (.iadd, 1) := by decide +kernel
theorem dX8_alike_28 : decode cX8_alike 28 = .ok (.iaload, 1) := by decide +kernel
theorem dX8_alike_29 : decode cX8_alike 29 = .ok (.iload_n 2, 1) := by decide +kernel
theorem dX8_alike_30 : decode cX8_alike 30 = .ok (.if_icmp .ne 7, 3) := by decide +kernel
theorem dX8_alike_33 : decode cX8_alike 33 = .ok (.iconst 1, 1) := by decide +kernel
theorem dX8_alike_34 : decode cX8_alike 34 = .ok (.goto 4, 3) := by decide +kernel
theorem dX8_alike_37 : decode cX8_alike 37 = .ok (.iconst 0, 1) := by decide +kernel
theorem dX8_alike_38 : decode cX8_alike 38 = .ok (.iadd, 1) := by decide +kernel
theorem dX8_alike_39 : decode cX8_alike 39 = .ok (.istore_n 3, 1) := by decide +kernel
theorem dX8_alike_40 : decode cX8_alike 40 = .ok (.iinc 4 1, 3) := by decide +kernel
theorem dX8_alike_43 : decode cX8_alike 43 = .ok (.goto (-38), 3) := by decide +kernel
theorem dX8_alike_46 : decode cX8_alike 46 = .ok (.iload_n 3, 1) := by decide +kernel
theorem dX8_alike_47 : decode cX8_alike 47 = .ok (.ireturn, 1) := by decide +kernel
theorem dX8_startWalks_0 : decode cX8_startWalks 0 = .ok (.aload_n 0, 1) := by decide +kernel
theorem dX8_startWalks_1 : decode cX8_startWalks 1 = .ok (.aload_n 0, 1) := by decide +kernel
theorem dX8_startWalks_2 : decode cX8_startWalks 2 = .ok (.iload_n 1, 1) := by decide +kernel
theorem dX8_startWalks_3 : decode cX8_startWalks 3 = .ok (.iload_n 2, 1) := by decide +kernel
theorem dX8_startWalks_4 : decode cX8_startWalks 4 = .ok (.invokevirtual 101, 3) := by decide +kernel
theorem dX8_startWalks_7 : decode cX8_startWalks 7 = .ok (.ifCond .eq 7, 3) := by decide +kernel
theorem dX8_startWalks_10 : decode cX8_startWalks 10 = .ok (.iconst 0, 1) := by decide +kernel
theorem dX8_startWalks_11 : decode cX8_startWalks 11 = .ok (.goto 4, 3) := by decide +kernel
theorem dX8_startWalks_14 : decode cX8_startWalks 14 = .ok (.iconst 1, 1) := by decide +kernel
theorem dX8_startWalks_15 : decode cX8_startWalks 15 = .ok (.invokevirtual 115, 3) := by decide +kernel
theorem dX8_startWalks_18 : decode cX8_startWalks 18 = .ok (.ifCond .eq 33, 3) := by decide +kernel
theorem dX8_startWalks_21 : decode cX8_startWalks 21 = .ok (.aload_n 0, 1) := by decide +kernel
theorem dX8_startWalks_22 : decode cX8_startWalks 22 = .ok (.iconst 1, 1) := by decide +kernel
theorem dX8_startWalks_23 : decode cX8_startWalks 23 = .ok (.putfield 112, 3) := by decide +kernel
theorem dX8_startWalks_26 : decode cX8_startWalks 26 = .ok (.aload_n 0, 1) := by decide +kernel
theorem dX8_startWalks_27 : decode cX8_startWalks 27 = .ok (.iload_n 1, 1) := by decide +kernel
theorem dX8_startWalks_28 : decode cX8_startWalks 28 = .ok (.putfield 177, 3) := by decide +kernel
theorem dX8_startWalks_31 : decode cX8_startWalks 31 = .ok (.aload_n 0, 1) := by decide +kernel
theorem dX8_startWalks_32 : decode cX8_startWalks 32 = .ok (.iload_n 2, 1) := by decide +kernel
theorem dX8_startWalks_33 : decode cX8_startWalks 33 = .ok (.putfield 180, 3) := by decide +kernel
theorem dX8_startWalks_36 : decode cX8_startWalks 36 = .ok (.aload_n 0, 1) := by decide +kernel
theorem dX8_startWalks_37 : decode cX8_startWalks 37 = .ok (.iconst 0, 1) := by decide +kernel
theorem dX8_startWalks_38 : decode cX8_startWalks 38 = .ok (.putfield 183, 3) := by decide +kernel
theorem dX8_startWalks_41 : decode cX8_startWalks 41 = .ok (.aload_n 0, 1) := by decide +kernel
theorem dX8_startWalks_42 : decode cX8_startWalks 42 = .ok (.iconst 0, 1) := by decide +kernel
theorem dX8_startWalks_43 : decode cX8_startWalks 43 = .ok (.putfield 186, 3) := by decide +kernel
theorem dX8_startWalks_46 : decode cX8_startWalks 46 = .ok (.aload_n 0, 1) := by decide +kernel
theorem dX8_startWalks_47 : decode cX8_startWalks 47 = .ok (.iload_n 2, 1) := by decide +kernel
theorem dX8_startWalks_48 : decode cX8_startWalks 48 = .ok (.invokevirtual 189, 3) := by decide +kernel
theorem dX8_startWalks_51 : decode cX8_startWalks 51 = .ok (.return_, 1) := by decide +kernel
theorem dX8_laysWalk_0 : decode cX8_laysWalk 0 = .ok (.aload_n 0, 1) := by decide +kernel
theorem dX8_laysWalk_1 : decode cX8_laysWalk 1 = .ok (.getfield 177, 3) := by decide +kernel
theorem dX8_laysWalk_4 : decode cX8_laysWalk 4 = .ok (.istore_n 3, 1) := by decide +kernel
theorem dX8_laysWalk_5 : decode cX8_laysWalk 5 = .ok (.iload_n 1, 1) := by decide +kernel
theorem dX8_laysWalk_6 : decode cX8_laysWalk 6 = .ok (.istore 4, 2) := by decide +kernel
theorem dX8_laysWalk_8 : decode cX8_laysWalk 8 = .ok (.iload_n 2, 1) := by decide +kernel
theorem dX8_laysWalk_9 : decode cX8_laysWalk 9 = .ok (.istore 5, 2) := by decide +kernel
theorem dX8_laysWalk_11 : decode cX8_laysWalk 11 = .ok (.aload_n 0, 1) := by decide +kernel
theorem dX8_laysWalk_12 : decode cX8_laysWalk 12 = .ok (.iconst 0, 1) := by decide +kernel
theorem dX8_laysWalk_13 : decode cX8_laysWalk 13 = .ok (.putfield 186, 3) := by decide +kernel
theorem dX8_laysWalk_16 : decode cX8_laysWalk 16 = .ok (.iload 4, 2) := by decide +kernel
theorem dX8_laysWalk_18 : decode cX8_laysWalk 18 = .ok (.ifCond .le 92, 3) := by decide +kernel
theorem dX8_laysWalk_21 : decode cX8_laysWalk 21 = .ok (.iconst 0, 1) := by decide +kernel
theorem dX8_laysWalk_22 : decode cX8_laysWalk 22 = .ok (.istore 6, 2) := by decide +kernel
theorem dX8_laysWalk_24 : decode cX8_laysWalk 24 = .ok (.aload_n 0, 1) := by decide +kernel
theorem dX8_laysWalk_25 : decode cX8_laysWalk 25 = .ok (.iload 6, 2) := by decide +kernel
theorem dX8_laysWalk_27 : decode cX8_laysWalk 27 = .ok (.iload_n 3, 1) := by decide +kernel
theorem dX8_laysWalk_28 : decode cX8_laysWalk 28 = .ok (.iload 4, 2) := by decide +kernel
theorem dX8_laysWalk_30 : decode cX8_laysWalk 30 = .ok (.invokevirtual 193, 3) := by decide +kernel
theorem dX8_laysWalk_33 : decode cX8_laysWalk 33 = .ok (.istore 7, 2) := by decide +kernel
theorem dX8_laysWalk_35 : decode cX8_laysWalk 35 = .ok (.iload 7, 2) := by decide +kernel
theorem dX8_laysWalk_37 : decode cX8_laysWalk 37 = .ok (.iload 5, 2) := by decide +kernel
theorem dX8_laysWalk_39 : decode cX8_laysWalk 39 = .ok (.if_icmp .gt 27, 3) := by decide +kernel
theorem dX8_laysWalk_42 : decode cX8_laysWalk 42 = .ok (.iload 5, 2) := by decide +kernel
theorem dX8_laysWalk_44 : decode cX8_laysWalk 44 = .ok (.iload 7, 2) := by decide +kernel
theorem dX8_laysWalk_46 : decode cX8_laysWalk 46 = .ok (.isub, 1) := by decide +kernel
theorem dX8_laysWalk_47 : decode cX8_laysWalk 47 = .ok (.istore 5, 2) := by decide +kernel
theorem dX8_laysWalk_49 : decode cX8_laysWalk 49 = .ok (.iinc 6 1, 3) := by decide +kernel
theorem dX8_laysWalk_52 : decode cX8_laysWalk 52 = .ok (.aload_n 0, 1) := by decide +kernel
theorem dX8_laysWalk_53 : decode cX8_laysWalk 53 = .ok (.iload 6, 2) := by decide +kernel
theorem dX8_laysWalk_55 : decode cX8_laysWalk 55 = .ok (.iload_n 3, 1) := by decide +kernel
theorem dX8_laysWalk_56 : decode cX8_laysWalk 56 = .ok (.iload 4, 2) := by decide +kernel
theorem dX8_laysWalk_58 : decode cX8_laysWalk 58 = .ok (.invokevirtual 193, 3) := by decide +kernel
theorem dX8_laysWalk_61 : decode cX8_laysWalk 61 = .ok (.istore 7, 2) := by decide +kernel
theorem dX8_laysWalk_63 : decode cX8_laysWalk 63 = .ok (.goto (-28), 3) := by decide +kernel
theorem dX8_laysWalk_66 : decode cX8_laysWalk 66 = .ok (.aload_n 0, 1) := by decide +kernel
theorem dX8_laysWalk_67 : decode cX8_laysWalk 67 = .ok (.getfield 51, 3) := by decide +kernel
theorem dX8_laysWalk_70 : decode cX8_laysWalk 70 = .ok (.aload_n 0, 1) := by decide +kernel
theorem dX8_laysWalk_71 : decode cX8_laysWalk 71 = .ok (.getfield 186, 3) := by decide +kernel
theorem dX8_laysWalk_74 : decode cX8_laysWalk 74 = .ok (.iload 6, 2) := by decide +kernel
theorem dX8_laysWalk_76 : decode cX8_laysWalk 76 = .ok (.iastore, 1) := by decide +kernel
theorem dX8_laysWalk_77 : decode cX8_laysWalk 77 = .ok (.aload_n 0, 1) := by decide +kernel
theorem dX8_laysWalk_78 : decode cX8_laysWalk 78 = .ok (.dup, 1) := by decide +kernel
theorem dX8_laysWalk_79 : decode cX8_laysWalk 79 = .ok (.getfield 186, 3) := by decide +kernel
theorem dX8_laysWalk_82 : decode cX8_laysWalk 82 = .ok (.iconst 1, 1) := by decide +kernel
theorem dX8_laysWalk_83 : decode cX8_laysWalk 83 = .ok (.iadd, 1) := by decide +kernel
theorem dX8_laysWalk_84 : decode cX8_laysWalk 84 = .ok (.putfield 186, 3) := by decide +kernel
theorem dX8_laysWalk_87 : decode cX8_laysWalk 87 = .ok (.iload 4, 2) := by decide +kernel
theorem dX8_laysWalk_89 : decode cX8_laysWalk 89 = .ok (.aload_n 0, 1) := by decide +kernel
theorem dX8_laysWalk_90 : decode cX8_laysWalk 90 = .ok (.getfield 20, 3) := by decide +kernel
theorem dX8_laysWalk_93 : decode cX8_laysWalk 93 = .ok (.iload 6, 2) := by decide +kernel
theorem dX8_laysWalk_95 : decode cX8_laysWalk 95 = .ok (.iaload, 1) := by decide +kernel
theorem dX8_laysWalk_96 : decode cX8_laysWalk 96 = .ok (.isub, 1) := by decide +kernel
theorem dX8_laysWalk_97 : decode cX8_laysWalk 97 = .ok (.istore 4, 2) := by decide +kernel
theorem dX8_laysWalk_99 : decode cX8_laysWalk 99 = .ok (.aload_n 0, 1) := by decide +kernel
theorem dX8_laysWalk_100 : decode cX8_laysWalk 100 = .ok (.getfield 17, 3) := by decide +kernel
theorem dX8_laysWalk_103 : decode cX8_laysWalk 103 = .ok (.iload 6, 2) := by decide +kernel
theorem dX8_laysWalk_105 : decode cX8_laysWalk 105 = .ok (.iaload, 1) := by decide +kernel
theorem dX8_laysWalk_106 : decode cX8_laysWalk 106 = .ok (.istore_n 3, 1) := by decide +kernel
theorem dX8_laysWalk_107 : decode cX8_laysWalk 107 = .ok (.goto (-91), 3) := by decide +kernel
theorem dX8_laysWalk_110 : decode cX8_laysWalk 110 = .ok (.return_, 1) := by decide +kernel
theorem dX8_leads_0 : decode cX8_leads 0 = .ok (.aload_n 0, 1) := by decide +kernel
theorem dX8_leads_1 : decode cX8_leads 1 = .ok (.iload_n 1, 1) := by decide +kernel
theorem dX8_leads_2 : decode cX8_leads 2 = .ok (.invokevirtual 127, 3) := by decide +kernel
theorem dX8_leads_5 : decode cX8_leads 5 = .ok (.ifCond .eq 34, 3) := by decide +kernel
theorem dX8_leads_8 : decode cX8_leads 8 = .ok (.aload_n 0, 1) := by decide +kernel
theorem dX8_leads_9 : decode cX8_leads 9 = .ok (.getfield 13, 3) := by decide +kernel
theorem dX8_leads_12 : decode cX8_leads 12 = .ok (.iload_n 1, 1) := by decide +kernel
theorem dX8_leads_13 : decode cX8_leads 13 = .ok (.iaload, 1) := by decide +kernel
theorem dX8_leads_14 : decode cX8_leads 14 = .ok (.iload_n 2, 1) := by decide +kernel
theorem dX8_leads_15 : decode cX8_leads 15 = .ok (.if_icmp .ne 24, 3) := by decide +kernel
theorem dX8_leads_18 : decode cX8_leads 18 = .ok (.aload_n 0, 1) := by decide +kernel
theorem dX8_leads_19 : decode cX8_leads 19 = .ok (.aload_n 0, 1) := by decide +kernel
theorem dX8_leads_20 : decode cX8_leads 20 = .ok (.getfield 17, 3) := by decide +kernel
theorem dX8_leads_23 : decode cX8_leads 23 = .ok (.iload_n 1, 1) := by decide +kernel
theorem dX8_leads_24 : decode cX8_leads 24 = .ok (.iaload, 1) := by decide +kernel
theorem dX8_leads_25 : decode cX8_leads 25 = .ok (.iload_n 3, 1) := by decide +kernel
theorem dX8_leads_26 : decode cX8_leads 26 = .ok (.aload_n 0, 1) := by decide +kernel
theorem dX8_leads_27 : decode cX8_leads 27 = .ok (.getfield 20, 3) := by decide +kernel
theorem dX8_leads_30 : decode cX8_leads 30 = .ok (.iload_n 1, 1) := by decide +kernel
theorem dX8_leads_31 : decode cX8_leads 31 = .ok (.iaload, 1) := by decide +kernel
theorem dX8_leads_32 : decode cX8_leads 32 = .ok (.isub, 1) := by decide +kernel
theorem dX8_leads_33 : decode cX8_leads 33 = .ok (.invokevirtual 197, 3) := by decide +kernel
theorem dX8_leads_36 : decode cX8_leads 36 = .ok (.goto 4, 3) := by decide +kernel
theorem dX8_leads_39 : decode cX8_leads 39 = .ok (.iconst 0, 1) := by decide +kernel
theorem dX8_leads_40 : decode cX8_leads 40 = .ok (.ireturn, 1) := by decide +kernel
theorem dX8_nextWalk_0 : decode cX8_nextWalk 0 = .ok (.aload_n 0, 1) := by decide +kernel
theorem dX8_nextWalk_1 : decode cX8_nextWalk 1 = .ok (.aload_n 0, 1) := by decide +kernel
theorem dX8_nextWalk_2 : decode cX8_nextWalk 2 = .ok (.getfield 112, 3) := by decide +kernel
theorem dX8_nextWalk_5 : decode cX8_nextWalk 5 = .ok (.ifCond .eq 12, 3) := by decide +kernel
theorem dX8_nextWalk_8 : decode cX8_nextWalk 8 = .ok (.aload_n 0, 1) := by decide +kernel
theorem dX8_nextWalk_9 : decode cX8_nextWalk 9 = .ok (.getfield 183, 3) := by decide +kernel
theorem dX8_nextWalk_12 : decode cX8_nextWalk 12 = .ok (.bipush 50, 2) := by decide +kernel
theorem dX8_nextWalk_14 : decode cX8_nextWalk 14 = .ok (.if_icmp .ne 7, 3) := by decide +kernel
theorem dX8_nextWalk_17 : decode cX8_nextWalk 17 = .ok (.iconst 1, 1) := by decide +kernel
theorem dX8_nextWalk_18 : decode cX8_nextWalk 18 = .ok (.goto 24, 3) := by decide +kernel
theorem dX8_nextWalk_21 : decode cX8_nextWalk 21 = .ok (.aload_n 0, 1) := by decide +kernel
theorem dX8_nextWalk_22 : decode cX8_nextWalk 22 = .ok (.getfield 183, 3) := by decide +kernel
theorem dX8_nextWalk_25 : decode cX8_nextWalk 25 = .ok (.aload_n 0, 1) := by decide +kernel
theorem dX8_nextWalk_26 : decode cX8_nextWalk 26 = .ok (.getfield 57, 3) := by decide +kernel
theorem dX8_nextWalk_29 : decode cX8_nextWalk 29 = .ok (.aload_n 0, 1) := by decide +kernel
theorem dX8_nextWalk_30 : decode cX8_nextWalk 30 = .ok (.getfield 177, 3) := by decide +kernel
theorem dX8_nextWalk_33 : decode cX8_nextWalk 33 = .ok (.iaload, 1) := by decide +kernel
theorem dX8_nextWalk_34 : decode cX8_nextWalk 34 = .ok (.if_icmp .ne 7, 3) := by decide +kernel
theorem dX8_nextWalk_37 : decode cX8_nextWalk 37 = .ok (.iconst 2, 1) := by decide +kernel
theorem dX8_nextWalk_38 : decode cX8_nextWalk 38 = .ok (.goto 4, 3) := by decide +kernel
theorem dX8_nextWalk_41 : decode cX8_nextWalk 41 = .ok (.iconst 0, 1) := by decide +kernel
theorem dX8_nextWalk_42 : decode cX8_nextWalk 42 = .ok (.invokevirtual 115, 3) := by decide +kernel
theorem dX8_nextWalk_45 : decode cX8_nextWalk 45 = .ok (.ifCond .ne 5, 3) := by decide +kernel
theorem dX8_nextWalk_48 : decode cX8_nextWalk 48 = .ok (.iconst 0, 1) := by decide +kernel
theorem dX8_nextWalk_49 : decode cX8_nextWalk 49 = .ok (.ireturn, 1) := by decide +kernel
theorem dX8_nextWalk_50 : decode cX8_nextWalk 50 = .ok (.aload_n 0, 1) := by decide +kernel
theorem dX8_nextWalk_51 : decode cX8_nextWalk 51 = .ok (.getfield 54, 3) := by decide +kernel
theorem dX8_nextWalk_54 : decode cX8_nextWalk 54 = .ok (.bipush 50, 2) := by decide +kernel
theorem dX8_nextWalk_56 : decode cX8_nextWalk 56 = .ok (.aload_n 0, 1) := by decide +kernel
theorem dX8_nextWalk_57 : decode cX8_nextWalk 57 = .ok (.getfield 177, 3) := by decide +kernel
theorem dX8_nextWalk_60 : decode cX8_nextWalk 60 = .ok (.imul, 1) := by decide +kernel
theorem dX8_nextWalk_61 : decode cX8_nextWalk 61 = .ok (.aload_n 0, 1) := by decide +kernel
theorem dX8_nextWalk_62 : decode cX8_nextWalk 62 = .ok (.getfield 183, 3) := by decide +kernel
theorem dX8_nextWalk_65 : decode cX8_nextWalk 65 = .ok (.iadd, 1) := by decide +kernel
theorem dX8_nextWalk_66 : decode cX8_nextWalk 66 = .ok (.iaload, 1) := by decide +kernel
theorem dX8_nextWalk_67 : decode cX8_nextWalk 67 = .ok (.istore_n 1, 1) := by decide +kernel
theorem dX8_nextWalk_68 : decode cX8_nextWalk 68 = .ok (.iconst 0, 1) := by decide +kernel
theorem dX8_nextWalk_69 : decode cX8_nextWalk 69 = .ok (.istore_n 2, 1) := by decide +kernel
theorem dX8_nextWalk_70 : decode cX8_nextWalk 70 = .ok (.iconst 0, 1) := by decide +kernel
theorem dX8_nextWalk_71 : decode cX8_nextWalk 71 = .ok (.istore_n 3, 1) := by decide +kernel
theorem dX8_nextWalk_72 : decode cX8_nextWalk 72 = .ok (.iload_n 3, 1) := by decide +kernel
theorem dX8_nextWalk_73 : decode cX8_nextWalk 73 = .ok (.aload_n 0, 1) := by decide +kernel
theorem dX8_nextWalk_74 : decode cX8_nextWalk 74 = .ok (.getfield 183, 3) := by decide +kernel
theorem dX8_nextWalk_77 : decode cX8_nextWalk 77 = .ok (.if_icmp .ge 35, 3) := by decide +kernel
theorem dX8_nextWalk_80 : decode cX8_nextWalk 80 = .ok (.iload_n 2, 1) := by decide +kernel
theorem dX8_nextWalk_81 : decode cX8_nextWalk 81 = .ok (.aload_n 0, 1) := by decide +kernel
theorem dX8_nextWalk_82 : decode cX8_nextWalk 82 = .ok (.getfield 54, 3) := by decide +kernel
theorem dX8_nextWalk_85 : decode cX8_nextWalk 85 = .ok (.bipush 50, 2) := by decide +kernel
theorem dX8_nextWalk_87 : decode cX8_nextWalk 87 = .ok (.aload_n 0, 1) := by decide +kernel
theorem dX8_nextWalk_88 : decode cX8_nextWalk 88 = .ok (.getfield 177, 3) := by decide +kernel
theorem dX8_nextWalk_91 : decode cX8_nextWalk 91 = .ok (.imul, 1) := by decide +kernel
theorem dX8_nextWalk_92 : decode cX8_nextWalk 92 = .ok (.iload_n 3, 1) := by decide +kernel
theorem dX8_nextWalk_93 : decode cX8_nextWalk 93 = .ok (.iadd, 1) := by decide +kernel
theorem dX8_nextWalk_94 : decode cX8_nextWalk 94 = .ok (.iaload, 1) := by decide +kernel
theorem dX8_nextWalk_95 : decode cX8_nextWalk 95 = .ok (.iload_n 1, 1) := by decide +kernel
theorem dX8_nextWalk_96 : decode cX8_nextWalk 96 = .ok (.if_icmp .ne 7, 3) := by decide +kernel
theorem dX8_nextWalk_99 : decode cX8_nextWalk 99 = .ok (.iconst 1, 1) := by decide +kernel
theorem dX8_nextWalk_100 : decode cX8_nextWalk 100 = .ok (.goto 4, 3) := by decide +kernel
theorem dX8_nextWalk_103 : decode cX8_nextWalk 103 = .ok (.iconst 0, 1) := by decide +kernel
theorem dX8_nextWalk_104 : decode cX8_nextWalk 104 = .ok (.iadd, 1) := by decide +kernel
theorem dX8_nextWalk_105 : decode cX8_nextWalk 105 = .ok (.istore_n 2, 1) := by decide +kernel
theorem dX8_nextWalk_106 : decode cX8_nextWalk 106 = .ok (.iinc 3 1, 3) := by decide +kernel
theorem dX8_nextWalk_109 : decode cX8_nextWalk 109 = .ok (.goto (-37), 3) := by decide +kernel
theorem dX8_nextWalk_112 : decode cX8_nextWalk 112 = .ok (.aload_n 0, 1) := by decide +kernel
theorem dX8_nextWalk_113 : decode cX8_nextWalk 113 = .ok (.iload_n 1, 1) := by decide +kernel
theorem dX8_nextWalk_114 : decode cX8_nextWalk 114 = .ok (.iload_n 2, 1) := by decide +kernel
theorem dX8_nextWalk_115 : decode cX8_nextWalk 115 = .ok (.invokevirtual 200, 3) := by decide +kernel
theorem dX8_nextWalk_118 : decode cX8_nextWalk 118 = .ok (.aload_n 0, 1) := by decide +kernel
theorem dX8_nextWalk_119 : decode cX8_nextWalk 119 = .ok (.dup, 1) := by decide +kernel
theorem dX8_nextWalk_120 : decode cX8_nextWalk 120 = .ok (.getfield 183, 3) := by decide +kernel
theorem dX8_nextWalk_123 : decode cX8_nextWalk 123 = .ok (.iconst 1, 1) := by decide +kernel
theorem dX8_nextWalk_124 : decode cX8_nextWalk 124 = .ok (.iadd, 1) := by decide +kernel
theorem dX8_nextWalk_125 : decode cX8_nextWalk 125 = .ok (.putfield 183, 3) := by decide +kernel
theorem dX8_nextWalk_128 : decode cX8_nextWalk 128 = .ok (.iload_n 1, 1) := by decide +kernel
theorem dX8_nextWalk_129 : decode cX8_nextWalk 129 = .ok (.ireturn, 1) := by decide +kernel
theorem dX8_walksDrawn_0 : decode cX8_walksDrawn 0 = .ok (.aload_n 0, 1) := by decide +kernel
theorem dX8_walksDrawn_1 : decode cX8_walksDrawn 1 = .ok (.aload_n 0, 1) := by decide +kernel
theorem dX8_walksDrawn_2 : decode cX8_walksDrawn 2 = .ok (.getfield 112, 3) := by decide +kernel
theorem dX8_walksDrawn_5 : decode cX8_walksDrawn 5 = .ok (.ifCond .eq 7, 3) := by decide +kernel
theorem dX8_walksDrawn_8 : decode cX8_walksDrawn 8 = .ok (.iconst 0, 1) := by decide +kernel
theorem dX8_walksDrawn_9 : decode cX8_walksDrawn 9 = .ok (.goto 4, 3) := by decide +kernel
theorem dX8_walksDrawn_12 : decode cX8_walksDrawn 12 = .ok (.iconst 1, 1) := by decide +kernel
theorem dX8_walksDrawn_13 : decode cX8_walksDrawn 13 = .ok (.invokevirtual 115, 3) := by decide +kernel
theorem dX8_walksDrawn_16 : decode cX8_walksDrawn 16 = .ok (.ifCond .eq 10, 3) := by decide +kernel
theorem dX8_walksDrawn_19 : decode cX8_walksDrawn 19 = .ok (.aload_n 0, 1) := by decide +kernel
theorem dX8_walksDrawn_20 : decode cX8_walksDrawn 20 = .ok (.getfield 183, 3) := by decide +kernel
theorem dX8_walksDrawn_23 : decode cX8_walksDrawn 23 = .ok (.goto 4, 3) := by decide +kernel
theorem dX8_walksDrawn_26 : decode cX8_walksDrawn 26 = .ok (.iconst 0, 1) := by decide +kernel
theorem dX8_walksDrawn_27 : decode cX8_walksDrawn 27 = .ok (.ireturn, 1) := by decide +kernel
theorem dX8_walkEdges_0 : decode cX8_walkEdges 0 = .ok (.aload_n 0, 1) := by decide +kernel
theorem dX8_walkEdges_1 : decode cX8_walkEdges 1 = .ok (.aload_n 0, 1) := by decide +kernel
theorem dX8_walkEdges_2 : decode cX8_walkEdges 2 = .ok (.getfield 112, 3) := by decide +kernel
theorem dX8_walkEdges_5 : decode cX8_walkEdges 5 = .ok (.ifCond .ne 7, 3) := by decide +kernel
theorem dX8_walkEdges_8 : decode cX8_walkEdges 8 = .ok (.iconst 1, 1) := by decide +kernel
theorem dX8_walkEdges_9 : decode cX8_walkEdges 9 = .ok (.goto 15, 3) := by decide +kernel
theorem dX8_walkEdges_12 : decode cX8_walkEdges 12 = .ok (.aload_n 0, 1) := by decide +kernel
theorem dX8_walkEdges_13 : decode cX8_walkEdges 13 = .ok (.getfield 183, 3) := by decide +kernel
theorem dX8_walkEdges_16 : decode cX8_walkEdges 16 = .ok (.ifCond .ne 7, 3) := by decide +kernel
theorem dX8_walkEdges_19 : decode cX8_walkEdges 19 = .ok (.iconst 2, 1) := by decide +kernel
theorem dX8_walkEdges_20 : decode cX8_walkEdges 20 = .ok (.goto 4, 3) := by decide +kernel
theorem dX8_walkEdges_23 : decode cX8_walkEdges 23 = .ok (.iconst 0, 1) := by decide +kernel
theorem dX8_walkEdges_24 : decode cX8_walkEdges 24 = .ok (.invokevirtual 115, 3) := by decide +kernel
theorem dX8_walkEdges_27 : decode cX8_walkEdges 27 = .ok (.ifCond .eq 10, 3) := by decide +kernel
theorem dX8_walkEdges_30 : decode cX8_walkEdges 30 = .ok (.aload_n 0, 1) := by decide +kernel
theorem dX8_walkEdges_31 : decode cX8_walkEdges 31 = .ok (.getfield 186, 3) := by decide +kernel
theorem dX8_walkEdges_34 : decode cX8_walkEdges 34 = .ok (.goto 4, 3) := by decide +kernel
theorem dX8_walkEdges_37 : decode cX8_walkEdges 37 = .ok (.iconst 0, 1) := by decide +kernel
theorem dX8_walkEdges_38 : decode cX8_walkEdges 38 = .ok (.ireturn, 1) := by decide +kernel
theorem dX8_walkEdge_0 : decode cX8_walkEdge 0 = .ok (.aload_n 0, 1) := by decide +kernel
theorem dX8_walkEdge_1 : decode cX8_walkEdge 1 = .ok (.aload_n 0, 1) := by decide +kernel
theorem dX8_walkEdge_2 : decode cX8_walkEdge 2 = .ok (.getfield 112, 3) := by decide +kernel
theorem dX8_walkEdge_5 : decode cX8_walkEdge 5 = .ok (.ifCond .ne 7, 3) := by decide +kernel
theorem dX8_walkEdge_8 : decode cX8_walkEdge 8 = .ok (.iconst 1, 1) := by decide +kernel
theorem dX8_walkEdge_9 : decode cX8_walkEdge 9 = .ok (.goto 22, 3) := by decide +kernel
theorem dX8_walkEdge_12 : decode cX8_walkEdge 12 = .ok (.iload_n 1, 1) := by decide +kernel
theorem dX8_walkEdge_13 : decode cX8_walkEdge 13 = .ok (.iconst 0, 1) := by decide +kernel
theorem dX8_walkEdge_14 : decode cX8_walkEdge 14 = .ok (.aload_n 0, 1) := by decide +kernel
theorem dX8_walkEdge_15 : decode cX8_walkEdge 15 = .ok (.getfield 186, 3) := by decide +kernel
theorem dX8_walkEdge_18 : decode cX8_walkEdge 18 = .ok (.iconst 1, 1) := by decide +kernel
theorem dX8_walkEdge_19 : decode cX8_walkEdge 19 = .ok (.isub, 1) := by decide +kernel
theorem dX8_walkEdge_20 : decode cX8_walkEdge 20 = .ok (.invokestatic 93, 3) := by decide +kernel
theorem dX8_walkEdge_23 : decode cX8_walkEdge 23 = .ok (.ifCond .eq 7, 3) := by decide +kernel
theorem dX8_walkEdge_26 : decode cX8_walkEdge 26 = .ok (.iconst 0, 1) := by decide +kernel
theorem dX8_walkEdge_27 : decode cX8_walkEdge 27 = .ok (.goto 4, 3) := by decide +kernel
theorem dX8_walkEdge_30 : decode cX8_walkEdge 30 = .ok (.iconst 2, 1) := by decide +kernel
theorem dX8_walkEdge_31 : decode cX8_walkEdge 31 = .ok (.invokevirtual 115, 3) := by decide +kernel
theorem dX8_walkEdge_34 : decode cX8_walkEdge 34 = .ok (.ifCond .eq 12, 3) := by decide +kernel
theorem dX8_walkEdge_37 : decode cX8_walkEdge 37 = .ok (.aload_n 0, 1) := by decide +kernel
theorem dX8_walkEdge_38 : decode cX8_walkEdge 38 = .ok (.getfield 51, 3) := by decide +kernel
theorem dX8_walkEdge_41 : decode cX8_walkEdge 41 = .ok (.iload_n 1, 1) := by decide +kernel
theorem dX8_walkEdge_42 : decode cX8_walkEdge 42 = .ok (.iaload, 1) := by decide +kernel
theorem dX8_walkEdge_43 : decode cX8_walkEdge 43 = .ok (.goto 4, 3) := by decide +kernel
theorem dX8_walkEdge_46 : decode cX8_walkEdge 46 = .ok (.iconst 0, 1) := by decide +kernel
theorem dX8_walkEdge_47 : decode cX8_walkEdge 47 = .ok (.ireturn, 1) := by decide +kernel
theorem dX8_arc_0 : decode cX8_arc 0 = .ok (.aload_n 0, 1) := by decide +kernel
theorem dX8_arc_1 : decode cX8_arc 1 = .ok (.getfield 66, 3) := by decide +kernel
theorem dX8_arc_4 : decode cX8_arc 4 = .ok (.aload_n 0, 1) := by decide +kernel
theorem dX8_arc_5 : decode cX8_arc 5 = .ok (.getfield 203, 3) := by decide +kernel
theorem dX8_arc_8 : decode cX8_arc 8 = .ok (.iload_n 1, 1) := by decide +kernel
theorem dX8_arc_9 : decode cX8_arc 9 = .ok (.iastore, 1) := by decide +kernel
theorem dX8_arc_10 : decode cX8_arc 10 = .ok (.aload_n 0, 1) := by decide +kernel
theorem dX8_arc_11 : decode cX8_arc 11 = .ok (.getfield 69, 3) := by decide +kernel
theorem dX8_arc_14 : decode cX8_arc 14 = .ok (.aload_n 0, 1) := by decide +kernel
theorem dX8_arc_15 : decode cX8_arc 15 = .ok (.getfield 203, 3) := by decide +kernel
theorem dX8_arc_18 : decode cX8_arc 18 = .ok (.iload_n 2, 1) := by decide +kernel
theorem dX8_arc_19 : decode cX8_arc 19 = .ok (.iastore, 1) := by decide +kernel
theorem dX8_arc_20 : decode cX8_arc 20 = .ok (.aload_n 0, 1) := by decide +kernel
theorem dX8_arc_21 : decode cX8_arc 21 = .ok (.getfield 72, 3) := by decide +kernel
theorem dX8_arc_24 : decode cX8_arc 24 = .ok (.aload_n 0, 1) := by decide +kernel
theorem dX8_arc_25 : decode cX8_arc 25 = .ok (.getfield 203, 3) := by decide +kernel
theorem dX8_arc_28 : decode cX8_arc 28 = .ok (.iconst 1, 1) := by decide +kernel
theorem dX8_arc_29 : decode cX8_arc 29 = .ok (.iastore, 1) := by decide +kernel
theorem dX8_arc_30 : decode cX8_arc 30 = .ok (.aload_n 0, 1) := by decide +kernel
theorem dX8_arc_31 : decode cX8_arc 31 = .ok (.getfield 75, 3) := by decide +kernel
theorem dX8_arc_34 : decode cX8_arc 34 = .ok (.aload_n 0, 1) := by decide +kernel
theorem dX8_arc_35 : decode cX8_arc 35 = .ok (.getfield 203, 3) := by decide +kernel
theorem dX8_arc_38 : decode cX8_arc 38 = .ok (.iload_n 3, 1) := by decide +kernel
theorem dX8_arc_39 : decode cX8_arc 39 = .ok (.iastore, 1) := by decide +kernel
theorem dX8_arc_40 : decode cX8_arc 40 = .ok (.aload_n 0, 1) := by decide +kernel
theorem dX8_arc_41 : decode cX8_arc 41 = .ok (.getfield 66, 3) := by decide +kernel
theorem dX8_arc_44 : decode cX8_arc 44 = .ok (.aload_n 0, 1) := by decide +kernel
theorem dX8_arc_45 : decode cX8_arc 45 = .ok (.getfield 203, 3) := by decide +kernel
theorem dX8_arc_48 : decode cX8_arc 48 = .ok (.iconst 1, 1) := by decide +kernel
theorem dX8_arc_49 : decode cX8_arc 49 = .ok (.iadd, 1) := by decide +kernel
theorem dX8_arc_50 : decode cX8_arc 50 = .ok (.iload_n 2, 1) := by decide +kernel
theorem dX8_arc_51 : decode cX8_arc 51 = .ok (.iastore, 1) := by decide +kernel
theorem dX8_arc_52 : decode cX8_arc 52 = .ok (.aload_n 0, 1) := by decide +kernel
theorem dX8_arc_53 : decode cX8_arc 53 = .ok (.getfield 69, 3) := by decide +kernel
theorem dX8_arc_56 : decode cX8_arc 56 = .ok (.aload_n 0, 1) := by decide +kernel
theorem dX8_arc_57 : decode cX8_arc 57 = .ok (.getfield 203, 3) := by decide +kernel
theorem dX8_arc_60 : decode cX8_arc 60 = .ok (.iconst 1, 1) := by decide +kernel
theorem dX8_arc_61 : decode cX8_arc 61 = .ok (.iadd, 1) := by decide +kernel
theorem dX8_arc_62 : decode cX8_arc 62 = .ok (.iload_n 1, 1) := by decide +kernel
theorem dX8_arc_63 : decode cX8_arc 63 = .ok (.iastore, 1) := by decide +kernel
theorem dX8_arc_64 : decode cX8_arc 64 = .ok (.aload_n 0, 1) := by decide +kernel
theorem dX8_arc_65 : decode cX8_arc 65 = .ok (.getfield 72, 3) := by decide +kernel
theorem dX8_arc_68 : decode cX8_arc 68 = .ok (.aload_n 0, 1) := by decide +kernel
theorem dX8_arc_69 : decode cX8_arc 69 = .ok (.getfield 203, 3) := by decide +kernel
theorem dX8_arc_72 : decode cX8_arc 72 = .ok (.iconst 1, 1) := by decide +kernel
theorem dX8_arc_73 : decode cX8_arc 73 = .ok (.iadd, 1) := by decide +kernel
theorem dX8_arc_74 : decode cX8_arc 74 = .ok (.iconst 0, 1) := by decide +kernel
theorem dX8_arc_75 : decode cX8_arc 75 = .ok (.iastore, 1) := by decide +kernel
theorem dX8_arc_76 : decode cX8_arc 76 = .ok (.aload_n 0, 1) := by decide +kernel
theorem dX8_arc_77 : decode cX8_arc 77 = .ok (.getfield 75, 3) := by decide +kernel
theorem dX8_arc_80 : decode cX8_arc 80 = .ok (.aload_n 0, 1) := by decide +kernel
theorem dX8_arc_81 : decode cX8_arc 81 = .ok (.getfield 203, 3) := by decide +kernel
theorem dX8_arc_84 : decode cX8_arc 84 = .ok (.iconst 1, 1) := by decide +kernel
theorem dX8_arc_85 : decode cX8_arc 85 = .ok (.iadd, 1) := by decide +kernel
theorem dX8_arc_86 : decode cX8_arc 86 = .ok (.iload_n 3, 1) := by decide +kernel
theorem dX8_arc_87 : decode cX8_arc 87 = .ok (.ineg, 1) := by decide +kernel
theorem dX8_arc_88 : decode cX8_arc 88 = .ok (.iastore, 1) := by decide +kernel
theorem dX8_arc_89 : decode cX8_arc 89 = .ok (.aload_n 0, 1) := by decide +kernel
theorem dX8_arc_90 : decode cX8_arc 90 = .ok (.dup, 1) := by decide +kernel
theorem dX8_arc_91 : decode cX8_arc 91 = .ok (.getfield 203, 3) := by decide +kernel
theorem dX8_arc_94 : decode cX8_arc 94 = .ok (.iconst 2, 1) := by decide +kernel
theorem dX8_arc_95 : decode cX8_arc 95 = .ok (.iadd, 1) := by decide +kernel
theorem dX8_arc_96 : decode cX8_arc 96 = .ok (.putfield 203, 3) := by decide +kernel
theorem dX8_arc_99 : decode cX8_arc 99 = .ok (.return_, 1) := by decide +kernel
theorem dX8_laysArcs_0 : decode cX8_laysArcs 0 = .ok (.aload_n 0, 1) := by decide +kernel
theorem dX8_laysArcs_1 : decode cX8_laysArcs 1 = .ok (.iconst 0, 1) := by decide +kernel
theorem dX8_laysArcs_2 : decode cX8_laysArcs 2 = .ok (.putfield 203, 3) := by decide +kernel
theorem dX8_laysArcs_5 : decode cX8_laysArcs 5 = .ok (.iconst 0, 1) := by decide +kernel
theorem dX8_laysArcs_6 : decode cX8_laysArcs 6 = .ok (.istore 4, 2) := by decide +kernel
theorem dX8_laysArcs_8 : decode cX8_laysArcs 8 = .ok (.iload 4, 2) := by decide +kernel
theorem dX8_laysArcs_10 : decode cX8_laysArcs 10 = .ok (.aload_n 0, 1) := by decide +kernel
theorem dX8_laysArcs_11 : decode cX8_laysArcs 11 = .ok (.getfield 7, 3) := by decide +kernel
theorem dX8_laysArcs_14 : decode cX8_laysArcs 14 = .ok (.if_icmp .ge 54, 3) := by decide +kernel
theorem dX8_laysArcs_17 : decode cX8_laysArcs 17 = .ok (.aload_n 0, 1) := by decide +kernel
theorem dX8_laysArcs_18 : decode cX8_laysArcs 18 = .ok (.iload 4, 2) := by decide +kernel
theorem dX8_laysArcs_20 : decode cX8_laysArcs 20 = .ok (.bipush 10, 2) := by decide +kernel
theorem dX8_laysArcs_22 : decode cX8_laysArcs 22 = .ok (.iload 4, 2) := by decide +kernel
theorem dX8_laysArcs_24 : decode cX8_laysArcs 24 = .ok (.iadd, 1) := by decide +kernel
theorem dX8_laysArcs_25 : decode cX8_laysArcs 25 = .ok (.iconst 0, 1) := by decide +kernel
theorem dX8_laysArcs_26 : decode cX8_laysArcs 26 = .ok (.invokevirtual 206, 3) := by decide +kernel
theorem dX8_laysArcs_29 : decode cX8_laysArcs 29 = .ok (.aload_n 0, 1) := by decide +kernel
theorem dX8_laysArcs_30 : decode cX8_laysArcs 30 = .ok (.getfield 72, 3) := by decide +kernel
theorem dX8_laysArcs_33 : decode cX8_laysArcs 33 = .ok (.aload_n 0, 1) := by decide +kernel
theorem dX8_laysArcs_34 : decode cX8_laysArcs 34 = .ok (.getfield 203, 3) := by decide +kernel
theorem dX8_laysArcs_37 : decode cX8_laysArcs 37 = .ok (.iconst 2, 1) := by decide +kernel
theorem dX8_laysArcs_38 : decode cX8_laysArcs 38 = .ok (.isub, 1) := by decide +kernel
theorem dX8_laysArcs_39 : decode cX8_laysArcs 39 = .ok (.iload_n 3, 1) := by decide +kernel
theorem dX8_laysArcs_40 : decode cX8_laysArcs 40 = .ok (.ifCond .eq 15, 3) := by decide +kernel
theorem dX8_laysArcs_43 : decode cX8_laysArcs 43 = .ok (.iload 4, 2) := by decide +kernel
theorem dX8_laysArcs_45 : decode cX8_laysArcs 45 = .ok (.iload_n 1, 1) := by decide +kernel
theorem dX8_laysArcs_46 : decode cX8_laysArcs 46 = .ok (.if_icmp .eq 9, 3) := by decide +kernel
theorem dX8_laysArcs_49 : decode cX8_laysArcs 49 = .ok (.iload 4, 2) := by decide +kernel
theorem dX8_laysArcs_51 : decode cX8_laysArcs 51 = .ok (.iload_n 2, 1) := by decide +kernel
theorem dX8_laysArcs_52 : decode cX8_laysArcs 52 = .ok (.if_icmp .ne 8, 3) := by decide +kernel
theorem dX8_laysArcs_55 : decode cX8_laysArcs 55 = .ok (.bipush 24, 2) := by decide +kernel
theorem dX8_laysArcs_57 : decode cX8_laysArcs 57 = .ok (.goto 4, 3) := by decide +kernel
theorem dX8_laysArcs_60 : decode cX8_laysArcs 60 = .ok (.iconst 1, 1) := by decide +kernel
theorem dX8_laysArcs_61 : decode cX8_laysArcs 61 = .ok (.iastore, 1) := by decide +kernel
theorem dX8_laysArcs_62 : decode cX8_laysArcs 62 = .ok (.iinc 4 1, 3) := by decide +kernel
theorem dX8_laysArcs_65 : decode cX8_laysArcs 65 = .ok (.goto (-57), 3) := by decide +kernel
theorem dX8_laysArcs_68 : decode cX8_laysArcs 68 = .ok (.iconst 0, 1) := by decide +kernel
theorem dX8_laysArcs_69 : decode cX8_laysArcs 69 = .ok (.istore 4, 2) := by decide +kernel
theorem dX8_laysArcs_71 : decode cX8_laysArcs 71 = .ok (.iload 4, 2) := by decide +kernel
theorem dX8_laysArcs_73 : decode cX8_laysArcs 73 = .ok (.aload_n 0, 1) := by decide +kernel
theorem dX8_laysArcs_74 : decode cX8_laysArcs 74 = .ok (.getfield 105, 3) := by decide +kernel
theorem dX8_laysArcs_77 : decode cX8_laysArcs 77 = .ok (.if_icmp .ge 46, 3) := by decide +kernel
theorem dX8_laysArcs_80 : decode cX8_laysArcs 80 = .ok (.aload_n 0, 1) := by decide +kernel
theorem dX8_laysArcs_81 : decode cX8_laysArcs 81 = .ok (.iload 4, 2) := by decide +kernel
theorem dX8_laysArcs_83 : decode cX8_laysArcs 83 = .ok (.invokevirtual 127, 3) := by decide +kernel
theorem dX8_laysArcs_86 : decode cX8_laysArcs 86 = .ok (.ifCond .eq 31, 3) := by decide +kernel
theorem dX8_laysArcs_89 : decode cX8_laysArcs 89 = .ok (.aload_n 0, 1) := by decide +kernel
theorem dX8_laysArcs_90 : decode cX8_laysArcs 90 = .ok (.bipush 10, 2) := by decide +kernel
theorem dX8_laysArcs_92 : decode cX8_laysArcs 92 = .ok (.aload_n 0, 1) := by decide +kernel
theorem dX8_laysArcs_93 : decode cX8_laysArcs 93 = .ok (.getfield 13, 3) := by decide +kernel
theorem dX8_laysArcs_96 : decode cX8_laysArcs 96 = .ok (.iload 4, 2) := by decide +kernel
theorem dX8_laysArcs_98 : decode cX8_laysArcs 98 = .ok (.iaload, 1) := by decide +kernel
theorem dX8_laysArcs_99 : decode cX8_laysArcs 99 = .ok (.iadd, 1) := by decide +kernel
theorem dX8_laysArcs_100 : decode cX8_laysArcs 100 = .ok (.aload_n 0, 1) := by decide +kernel
theorem dX8_laysArcs_101 : decode cX8_laysArcs 101 = .ok (.getfield 17, 3) := by decide +kernel
theorem dX8_laysArcs_104 : decode cX8_laysArcs 104 = .ok (.iload 4, 2) := by decide +kernel
theorem dX8_laysArcs_106 : decode cX8_laysArcs 106 = .ok (.iaload, 1) := by decide +kernel
theorem dX8_laysArcs_107 : decode cX8_laysArcs 107 = .ok (.aload_n 0, 1) := by decide +kernel
theorem dX8_laysArcs_108 : decode cX8_laysArcs 108 = .ok (.getfield 20, 3) := by decide +kernel
theorem dX8_laysArcs_111 : decode cX8_laysArcs 111 = .ok (.iload 4, 2) := by decide +kernel
theorem dX8_laysArcs_113 : decode cX8_laysArcs 113 = .ok (.iaload, 1) := by decide +kernel
theorem dX8_laysArcs_114 : decode cX8_laysArcs 114 = .ok (.invokevirtual 206, 3) := by decide +kernel
theorem dX8_laysArcs_117 : decode cX8_laysArcs 117 = .ok (.iinc 4 1, 3) := by decide +kernel
theorem dX8_laysArcs_120 : decode cX8_laysArcs 120 = .ok (.goto (-49), 3) := by decide +kernel
theorem dX8_laysArcs_123 : decode cX8_laysArcs 123 = .ok (.return_, 1) := by decide +kernel
theorem dX8_flows_0 : decode cX8_flows 0 = .ok (.iconst 0, 1) := by decide +kernel
theorem dX8_flows_1 : decode cX8_flows 1 = .ok (.istore_n 3, 1) := by decide +kernel
theorem dX8_flows_2 : decode cX8_flows 2 = .ok (.iload_n 3, 1) := by decide +kernel
theorem dX8_flows_3 : decode cX8_flows 3 = .ok (.bipush 20, 2) := by decide +kernel
theorem dX8_flows_5 : decode cX8_flows 5 = .ok (.if_icmp .ge 26, 3) := by decide +kernel
theorem dX8_flows_8 : decode cX8_flows 8 = .ok (.aload_n 0, 1) := by decide +kernel
theorem dX8_flows_9 : decode cX8_flows 9 = .ok (.getfield 78, 3) := by decide +kernel
theorem dX8_flows_12 : decode cX8_flows 12 = .ok (.iload_n 3, 1) := by decide +kernel
theorem dX8_flows_13 : decode cX8_flows 13 = .ok (.iload_n 3, 1) := by decide +kernel
theorem dX8_flows_14 : decode cX8_flows 14 = .ok (.iload_n 1, 1) := by decide +kernel
theorem dX8_flows_15 : decode cX8_flows 15 = .ok (.if_icmp .ne 7, 3) := by decide +kernel
theorem dX8_flows_18 : decode cX8_flows 18 = .ok (.iconst 0, 1) := by decide +kernel
theorem dX8_flows_19 : decode cX8_flows 19 = .ok (.goto 5, 3) := by decide +kernel
theorem dX8_flows_22 : decode cX8_flows 22 = .ok (.ldc 130, 2) := by decide +kernel
theorem dX8_flows_24 : decode cX8_flows 24 = .ok (.iastore, 1) := by decide +kernel
theorem dX8_flows_25 : decode cX8_flows 25 = .ok (.iinc 3 1, 3) := by decide +kernel
theorem dX8_flows_28 : decode cX8_flows 28 = .ok (.goto (-26), 3) := by decide +kernel
theorem dX8_flows_31 : decode cX8_flows 31 = .ok (.iconst 1, 1) := by decide +kernel
theorem dX8_flows_32 : decode cX8_flows 32 = .ok (.istore_n 3, 1) := by decide +kernel
theorem dX8_flows_33 : decode cX8_flows 33 = .ok (.iload_n 3, 1) := by decide +kernel
theorem dX8_flows_34 : decode cX8_flows 34 = .ok (.ifCond .eq 136, 3) := by decide +kernel
theorem dX8_flows_37 : decode cX8_flows 37 = .ok (.iconst 0, 1) := by decide +kernel
theorem dX8_flows_38 : decode cX8_flows 38 = .ok (.istore_n 3, 1) := by decide +kernel
theorem dX8_flows_39 : decode cX8_flows 39 = .ok (.iconst 0, 1) := by decide +kernel
theorem dX8_flows_40 : decode cX8_flows 40 = .ok (.istore 4, 2) := by decide +kernel
theorem dX8_flows_42 : decode cX8_flows 42 = .ok (.iload 4, 2) := by decide +kernel
theorem dX8_flows_44 : decode cX8_flows 44 = .ok (.aload_n 0, 1) := by decide +kernel
theorem dX8_flows_45 : decode cX8_flows 45 = .ok (.getfield 203, 3) := by decide +kernel
theorem dX8_flows_48 : decode cX8_flows 48 = .ok (.if_icmp .ge 119, 3) := by decide +kernel
theorem dX8_flows_51 : decode cX8_flows 51 = .ok (.aload_n 0, 1) := by decide +kernel
theorem dX8_flows_52 : decode cX8_flows 52 = .ok (.getfield 72, 3) := by decide +kernel
theorem dX8_flows_55 : decode cX8_flows 55 = .ok (.iload 4, 2) := by decide +kernel
theorem dX8_flows_57 : decode cX8_flows 57 = .ok (.iaload, 1) := by decide +kernel
theorem dX8_flows_58 : decode cX8_flows 58 = .ok (.ifCond .le 103, 3) := by decide +kernel
theorem dX8_flows_61 : decode cX8_flows 61 = .ok (.aload_n 0, 1) := by decide +kernel
theorem dX8_flows_62 : decode cX8_flows 62 = .ok (.getfield 78, 3) := by decide +kernel
theorem dX8_flows_65 : decode cX8_flows 65 = .ok (.aload_n 0, 1) := by decide +kernel
theorem dX8_flows_66 : decode cX8_flows 66 = .ok (.getfield 66, 3) := by decide +kernel
theorem dX8_flows_69 : decode cX8_flows 69 = .ok (.iload 4, 2) := by decide +kernel
theorem dX8_flows_71 : decode cX8_flows 71 = .ok (.iaload, 1) := by decide +kernel
theorem dX8_flows_72 : decode cX8_flows 72 = .ok (.iaload, 1) := by decide +kernel
theorem dX8_flows_73 : decode cX8_flows 73 = .ok (.ldc 130, 2) := by decide +kernel
theorem dX8_flows_75 : decode cX8_flows 75 = .ok (.if_icmp .ge 86, 3) := by decide +kernel
theorem dX8_flows_78 : decode cX8_flows 78 = .ok (.aload_n 0, 1) := by decide +kernel
theorem dX8_flows_79 : decode cX8_flows 79 = .ok (.getfield 78, 3) := by decide +kernel
theorem dX8_flows_82 : decode cX8_flows 82 = .ok (.aload_n 0, 1) := by decide +kernel
theorem dX8_flows_83 : decode cX8_flows 83 = .ok (.getfield 66, 3) := by decide +kernel
theorem dX8_flows_86 : decode cX8_flows 86 = .ok (.iload 4, 2) := by decide +kernel
theorem dX8_flows_88 : decode cX8_flows 88 = .ok (.iaload, 1) := by decide +kernel
theorem dX8_flows_89 : decode cX8_flows 89 = .ok (.iaload, 1) := by decide +kernel
theorem dX8_flows_90 : decode cX8_flows 90 = .ok (.aload_n 0, 1) := by decide +kernel
theorem dX8_flows_91 : decode cX8_flows 91 = .ok (.getfield 75, 3) := by decide +kernel
theorem dX8_flows_94 : decode cX8_flows 94 = .ok (.iload 4, 2) := by decide +kernel
theorem dX8_flows_96 : decode cX8_flows 96 = .ok (.iaload, 1) := by decide +kernel
theorem dX8_flows_97 : decode cX8_flows 97 = .ok (.iadd, 1) := by decide +kernel
theorem dX8_flows_98 : decode cX8_flows 98 = .ok (.aload_n 0, 1) := by decide +kernel
theorem dX8_flows_99 : decode cX8_flows 99 = .ok (.getfield 78, 3) := by decide +kernel
theorem dX8_flows_102 : decode cX8_flows 102 = .ok (.aload_n 0, 1) := by decide +kernel
theorem dX8_flows_103 : decode cX8_flows 103 = .ok (.getfield 69, 3) := by decide +kernel
theorem dX8_flows_106 : decode cX8_flows 106 = .ok (.iload 4, 2) := by decide +kernel
theorem dX8_flows_108 : decode cX8_flows 108 = .ok (.iaload, 1) := by decide +kernel
theorem dX8_flows_109 : decode cX8_flows 109 = .ok (.iaload, 1) := by decide +kernel
theorem dX8_flows_110 : decode cX8_flows 110 = .ok (.if_icmp .ge 51, 3) := by decide +kernel
theorem dX8_flows_113 : decode cX8_flows 113 = .ok (.aload_n 0, 1) := by decide +kernel
theorem dX8_flows_114 : decode cX8_flows 114 = .ok (.getfield 78, 3) := by decide +kernel
theorem dX8_flows_117 : decode cX8_flows 117 = .ok (.aload_n 0, 1) := by decide +kernel
theorem dX8_flows_118 : decode cX8_flows 118 = .ok (.getfield 69, 3) := by decide +kernel
theorem dX8_flows_121 : decode cX8_flows 121 = .ok (.iload 4, 2) := by decide +kernel
theorem dX8_flows_123 : decode cX8_flows 123 = .ok (.iaload, 1) := by decide +kernel
theorem dX8_flows_124 : decode cX8_flows 124 = .ok (.aload_n 0, 1) := by decide +kernel
theorem dX8_flows_125 : decode cX8_flows 125 = .ok (.getfield 78, 3) := by decide +kernel
theorem dX8_flows_128 : decode cX8_flows 128 = .ok (.aload_n 0, 1) := by decide +kernel
theorem dX8_flows_129 : decode cX8_flows 129 = .ok (.getfield 66, 3) := by decide +kernel
theorem dX8_flows_132 : decode cX8_flows 132 = .ok (.iload 4, 2) := by decide +kernel
theorem dX8_flows_134 : decode cX8_flows 134 = .ok (.iaload, 1) := by decide +kernel
theorem dX8_flows_135 : decode cX8_flows 135 = .ok (.iaload, 1) := by decide +kernel
theorem dX8_flows_136 : decode cX8_flows 136 = .ok (.aload_n 0, 1) := by decide +kernel
theorem dX8_flows_137 : decode cX8_flows 137 = .ok (.getfield 75, 3) := by decide +kernel
theorem dX8_flows_140 : decode cX8_flows 140 = .ok (.iload 4, 2) := by decide +kernel
theorem dX8_flows_142 : decode cX8_flows 142 = .ok (.iaload, 1) := by decide +kernel
theorem dX8_flows_143 : decode cX8_flows 143 = .ok (.iadd, 1) := by decide +kernel
theorem dX8_flows_144 : decode cX8_flows 144 = .ok (.iastore, 1) := by decide +kernel
theorem dX8_flows_145 : decode cX8_flows 145 = .ok (.aload_n 0, 1) := by decide +kernel
theorem dX8_flows_146 : decode cX8_flows 146 = .ok (.getfield 81, 3) := by decide +kernel
theorem dX8_flows_149 : decode cX8_flows 149 = .ok (.aload_n 0, 1) := by decide +kernel
theorem dX8_flows_150 : decode cX8_flows 150 = .ok (.getfield 69, 3) := by decide +kernel
theorem dX8_flows_153 : decode cX8_flows 153 = .ok (.iload 4, 2) := by decide +kernel
theorem dX8_flows_155 : decode cX8_flows 155 = .ok (.iaload, 1) := by decide +kernel
theorem dX8_flows_156 : decode cX8_flows 156 = .ok (.iload 4, 2) := by decide +kernel
theorem dX8_flows_158 : decode cX8_flows 158 = .ok (.iastore, 1) := by decide +kernel
theorem dX8_flows_159 : decode cX8_flows 159 = .ok (.iconst 1, 1) := by decide +kernel
theorem dX8_flows_160 : decode cX8_flows 160 = .ok (.istore_n 3, 1) := by decide +kernel
theorem dX8_flows_161 : decode cX8_flows 161 = .ok (.iinc 4 1, 3) := by decide +kernel
theorem dX8_flows_164 : decode cX8_flows 164 = .ok (.goto (-122), 3) := by decide +kernel
theorem dX8_flows_167 : decode cX8_flows 167 = .ok (.goto (-134), 3) := by decide +kernel
theorem dX8_flows_170 : decode cX8_flows 170 = .ok (.aload_n 0, 1) := by decide +kernel
theorem dX8_flows_171 : decode cX8_flows 171 = .ok (.getfield 78, 3) := by decide +kernel
theorem dX8_flows_174 : decode cX8_flows 174 = .ok (.bipush 10, 2) := by decide +kernel
theorem dX8_flows_176 : decode cX8_flows 176 = .ok (.iload_n 2, 1) := by decide +kernel
theorem dX8_flows_177 : decode cX8_flows 177 = .ok (.iadd, 1) := by decide +kernel
theorem dX8_flows_178 : decode cX8_flows 178 = .ok (.iaload, 1) := by decide +kernel
theorem dX8_flows_179 : decode cX8_flows 179 = .ok (.ldc 130, 2) := by decide +kernel
theorem dX8_flows_181 : decode cX8_flows 181 = .ok (.if_icmp .ne 7, 3) := by decide +kernel
theorem dX8_flows_184 : decode cX8_flows 184 = .ok (.iload_n 1, 1) := by decide +kernel
theorem dX8_flows_185 : decode cX8_flows 185 = .ok (.goto 7, 3) := by decide +kernel
theorem dX8_flows_188 : decode cX8_flows 188 = .ok (.bipush 10, 2) := by decide +kernel
theorem dX8_flows_190 : decode cX8_flows 190 = .ok (.iload_n 2, 1) := by decide +kernel
theorem dX8_flows_191 : decode cX8_flows 191 = .ok (.iadd, 1) := by decide +kernel
theorem dX8_flows_192 : decode cX8_flows 192 = .ok (.istore 4, 2) := by decide +kernel
theorem dX8_flows_194 : decode cX8_flows 194 = .ok (.iload 4, 2) := by decide +kernel
theorem dX8_flows_196 : decode cX8_flows 196 = .ok (.iload_n 1, 1) := by decide +kernel
theorem dX8_flows_197 : decode cX8_flows 197 = .ok (.if_icmp .eq 62, 3) := by decide +kernel
theorem dX8_flows_200 : decode cX8_flows 200 = .ok (.aload_n 0, 1) := by decide +kernel
theorem dX8_flows_201 : decode cX8_flows 201 = .ok (.getfield 81, 3) := by decide +kernel
theorem dX8_flows_204 : decode cX8_flows 204 = .ok (.iload 4, 2) := by decide +kernel
theorem dX8_flows_206 : decode cX8_flows 206 = .ok (.iaload, 1) := by decide +kernel
theorem dX8_flows_207 : decode cX8_flows 207 = .ok (.istore 5, 2) := by decide +kernel
theorem dX8_flows_209 : decode cX8_flows 209 = .ok (.aload_n 0, 1) := by decide +kernel
theorem dX8_flows_210 : decode cX8_flows 210 = .ok (.getfield 72, 3) := by decide +kernel
theorem dX8_flows_213 : decode cX8_flows 213 = .ok (.iload 5, 2) := by decide +kernel
theorem dX8_flows_215 : decode cX8_flows 215 = .ok (.dup2, 1) := by decide +kernel
theorem dX8_flows_216 : decode cX8_flows 216 = .ok (.iaload, 1) := by decide +kernel
theorem dX8_flows_217 : decode cX8_flows 217 = .ok (.iconst 1, 1) := by decide +kernel
theorem dX8_flows_218 : decode cX8_flows 218 = .ok (.isub, 1) := by decide +kernel
theorem dX8_flows_219 : decode cX8_flows 219 = .ok (.iastore, 1) := by decide +kernel
theorem dX8_flows_220 : decode cX8_flows 220 = .ok (.aload_n 0, 1) := by decide +kernel
theorem dX8_flows_221 : decode cX8_flows 221 = .ok (.getfield 72, 3) := by decide +kernel
theorem dX8_flows_224 : decode cX8_flows 224 = .ok (.iload 5, 2) := by decide +kernel
theorem dX8_flows_226 : decode cX8_flows 226 = .ok (.iconst 2, 1) := by decide +kernel
theorem dX8_flows_227 : decode cX8_flows 227 = .ok (.irem, 1) := by decide +kernel
theorem dX8_flows_228 : decode cX8_flows 228 = .ok (.ifCond .ne 10, 3) := by decide +kernel
theorem dX8_flows_231 : decode cX8_flows 231 = .ok (.iload 5, 2) := by decide +kernel
theorem dX8_flows_233 : decode cX8_flows 233 = .ok (.iconst 1, 1) := by decide +kernel
theorem dX8_flows_234 : decode cX8_flows 234 = .ok (.iadd, 1) := by decide +kernel
theorem dX8_flows_235 : decode cX8_flows 235 = .ok (.goto 7, 3) := by decide +kernel
theorem dX8_flows_238 : decode cX8_flows 238 = .ok (.iload 5, 2) := by decide +kernel
theorem dX8_flows_240 : decode cX8_flows 240 = .ok (.iconst 1, 1) := by decide +kernel
theorem dX8_flows_241 : decode cX8_flows 241 = .ok (.isub, 1) := by decide +kernel
theorem dX8_flows_242 : decode cX8_flows 242 = .ok (.dup2, 1) := by decide +kernel
theorem dX8_flows_243 : decode cX8_flows 243 = .ok (.iaload, 1) := by decide +kernel
theorem dX8_flows_244 : decode cX8_flows 244 = .ok (.iconst 1, 1) := by decide +kernel
theorem dX8_flows_245 : decode cX8_flows 245 = .ok (.iadd, 1) := by decide +kernel
theorem dX8_flows_246 : decode cX8_flows 246 = .ok (.iastore, 1) := by decide +kernel
theorem dX8_flows_247 : decode cX8_flows 247 = .ok (.aload_n 0, 1) := by decide +kernel
theorem dX8_flows_248 : decode cX8_flows 248 = .ok (.getfield 66, 3) := by decide +kernel
theorem dX8_flows_251 : decode cX8_flows 251 = .ok (.iload 5, 2) := by decide +kernel
theorem dX8_flows_253 : decode cX8_flows 253 = .ok (.iaload, 1) := by decide +kernel
theorem dX8_flows_254 : decode cX8_flows 254 = .ok (.istore 4, 2) := by decide +kernel
theorem dX8_flows_256 : decode cX8_flows 256 = .ok (.goto (-62), 3) := by decide +kernel
theorem dX8_flows_259 : decode cX8_flows 259 = .ok (.aload_n 0, 1) := by decide +kernel
theorem dX8_flows_260 : decode cX8_flows 260 = .ok (.getfield 78, 3) := by decide +kernel
theorem dX8_flows_263 : decode cX8_flows 263 = .ok (.bipush 10, 2) := by decide +kernel
theorem dX8_flows_265 : decode cX8_flows 265 = .ok (.iload_n 2, 1) := by decide +kernel
theorem dX8_flows_266 : decode cX8_flows 266 = .ok (.iadd, 1) := by decide +kernel
theorem dX8_flows_267 : decode cX8_flows 267 = .ok (.iaload, 1) := by decide +kernel
theorem dX8_flows_268 : decode cX8_flows 268 = .ok (.ireturn, 1) := by decide +kernel
theorem dX8_many_0 : decode cX8_many 0 = .ok (.iconst 0, 1) := by decide +kernel
theorem dX8_many_1 : decode cX8_many 1 = .ok (.istore 4, 2) := by decide +kernel
theorem dX8_many_3 : decode cX8_many 3 = .ok (.aload_n 0, 1) := by decide +kernel
theorem dX8_many_4 : decode cX8_many 4 = .ok (.iload_n 1, 1) := by decide +kernel
theorem dX8_many_5 : decode cX8_many 5 = .ok (.iload_n 2, 1) := by decide +kernel
theorem dX8_many_6 : decode cX8_many 6 = .ok (.iload_n 3, 1) := by decide +kernel
theorem dX8_many_7 : decode cX8_many 7 = .ok (.invokevirtual 210, 3) := by decide +kernel
theorem dX8_many_10 : decode cX8_many 10 = .ok (.aload_n 0, 1) := by decide +kernel
theorem dX8_many_11 : decode cX8_many 11 = .ok (.iload_n 1, 1) := by decide +kernel
theorem dX8_many_12 : decode cX8_many 12 = .ok (.iload_n 2, 1) := by decide +kernel
theorem dX8_many_13 : decode cX8_many 13 = .ok (.invokevirtual 214, 3) := by decide +kernel
theorem dX8_many_16 : decode cX8_many 16 = .ok (.ldc 130, 2) := by decide +kernel
theorem dX8_many_18 : decode cX8_many 18 = .ok (.if_icmp .ge 9, 3) := by decide +kernel
theorem dX8_many_21 : decode cX8_many 21 = .ok (.iinc 4 1, 3) := by decide +kernel
theorem dX8_many_24 : decode cX8_many 24 = .ok (.goto (-14), 3) := by decide +kernel
theorem dX8_many_27 : decode cX8_many 27 = .ok (.iload 4, 2) := by decide +kernel
theorem dX8_many_29 : decode cX8_many 29 = .ok (.ireturn, 1) := by decide +kernel
theorem dX8_disjointPaths_0 : decode cX8_disjointPaths 0 = .ok (.aload_n 0, 1) := by decide +kernel
theorem dX8_disjointPaths_1 : decode cX8_disjointPaths 1 = .ok (.aload_n 0, 1) := by decide +kernel
theorem dX8_disjointPaths_2 : decode cX8_disjointPaths 2 = .ok (.iload_n 1, 1) := by decide +kernel
theorem dX8_disjointPaths_3 : decode cX8_disjointPaths 3 = .ok (.iload_n 2, 1) := by decide +kernel
theorem dX8_disjointPaths_4 : decode cX8_disjointPaths 4 = .ok (.invokevirtual 121, 3) := by decide +kernel
theorem dX8_disjointPaths_7 : decode cX8_disjointPaths 7 = .ok (.ifCond .eq 7, 3) := by decide +kernel
theorem dX8_disjointPaths_10 : decode cX8_disjointPaths 10 = .ok (.iconst 0, 1) := by decide +kernel
theorem dX8_disjointPaths_11 : decode cX8_disjointPaths 11 = .ok (.goto 4, 3) := by decide +kernel
theorem dX8_disjointPaths_14 : decode cX8_disjointPaths 14 = .ok (.iconst 1, 1) := by decide +kernel
theorem dX8_disjointPaths_15 : decode cX8_disjointPaths 15 = .ok (.invokevirtual 115, 3) := by decide +kernel
theorem dX8_disjointPaths_18 : decode cX8_disjointPaths 18 = .ok (.ifCond .eq 13, 3) := by decide +kernel
theorem dX8_disjointPaths_21 : decode cX8_disjointPaths 21 = .ok (.aload_n 0, 1) := by decide +kernel
theorem dX8_disjointPaths_22 : decode cX8_disjointPaths 22 = .ok (.iload_n 1, 1) := by decide +kernel
theorem dX8_disjointPaths_23 : decode cX8_disjointPaths 23 = .ok (.iload_n 2, 1) := by decide +kernel
theorem dX8_disjointPaths_24 : decode cX8_disjointPaths 24 = .ok (.iload_n 3, 1) := by decide +kernel
theorem dX8_disjointPaths_25 : decode cX8_disjointPaths 25 = .ok (.invokevirtual 217, 3) := by decide +kernel
theorem dX8_disjointPaths_28 : decode cX8_disjointPaths 28 = .ok (.goto 4, 3) := by decide +kernel
theorem dX8_disjointPaths_31 : decode cX8_disjointPaths 31 = .ok (.iconst 0, 1) := by decide +kernel
theorem dX8_disjointPaths_32 : decode cX8_disjointPaths 32 = .ok (.ireturn, 1) := by decide +kernel
theorem dX8_together_0 : decode cX8_together 0 = .ok (.iconst 0, 1) := by decide +kernel
theorem dX8_together_1 : decode cX8_together 1 = .ok (.istore 5, 2) := by decide +kernel
theorem dX8_together_3 : decode cX8_together 3 = .ok (.aload_n 0, 1) := by decide +kernel
theorem dX8_together_4 : decode cX8_together 4 = .ok (.iload_n 1, 1) := by decide +kernel
theorem dX8_together_5 : decode cX8_together 5 = .ok (.iload_n 2, 1) := by decide +kernel
theorem dX8_together_6 : decode cX8_together 6 = .ok (.iload 4, 2) := by decide +kernel
theorem dX8_together_8 : decode cX8_together 8 = .ok (.invokevirtual 210, 3) := by decide +kernel
theorem dX8_together_11 : decode cX8_together 11 = .ok (.iconst 0, 1) := by decide +kernel
theorem dX8_together_12 : decode cX8_together 12 = .ok (.istore 6, 2) := by decide +kernel
theorem dX8_together_14 : decode cX8_together 14 = .ok (.iload 6, 2) := by decide +kernel
theorem dX8_together_16 : decode cX8_together 16 = .ok (.iload_n 3, 1) := by decide +kernel
theorem dX8_together_17 : decode cX8_together 17 = .ok (.if_icmp .ge 43, 3) := by decide +kernel
theorem dX8_together_20 : decode cX8_together 20 = .ok (.iload 5, 2) := by decide +kernel
theorem dX8_together_22 : decode cX8_together 22 = .ok (.ldc 130, 2) := by decide +kernel
theorem dX8_together_24 : decode cX8_together 24 = .ok (.if_icmp .ge 36, 3) := by decide +kernel
theorem dX8_together_27 : decode cX8_together 27 = .ok (.aload_n 0, 1) := by decide +kernel
theorem dX8_together_28 : decode cX8_together 28 = .ok (.iload_n 1, 1) := by decide +kernel
theorem dX8_together_29 : decode cX8_together 29 = .ok (.iload_n 2, 1) := by decide +kernel
theorem dX8_together_30 : decode cX8_together 30 = .ok (.invokevirtual 214, 3) := by decide +kernel
theorem dX8_together_33 : decode cX8_together 33 = .ok (.istore 7, 2) := by decide +kernel
theorem dX8_together_35 : decode cX8_together 35 = .ok (.iload 7, 2) := by decide +kernel
theorem dX8_together_37 : decode cX8_together 37 = .ok (.ldc 130, 2) := by decide +kernel
theorem dX8_together_39 : decode cX8_together 39 = .ok (.if_icmp .ne 8, 3) := by decide +kernel
theorem dX8_together_42 : decode cX8_together 42 = .ok (.ldc 130, 2) := by decide +kernel
theorem dX8_together_44 : decode cX8_together 44 = .ok (.goto 8, 3) := by decide +kernel
theorem dX8_together_47 : decode cX8_together 47 = .ok (.iload 5, 2) := by decide +kernel
theorem dX8_together_49 : decode cX8_together 49 = .ok (.iload 7, 2) := by decide +kernel
theorem dX8_together_51 : decode cX8_together 51 = .ok (.iadd, 1) := by decide +kernel
theorem dX8_together_52 : decode cX8_together 52 = .ok (.istore 5, 2) := by decide +kernel
theorem dX8_together_54 : decode cX8_together 54 = .ok (.iinc 6 1, 3) := by decide +kernel
theorem dX8_together_57 : decode cX8_together 57 = .ok (.goto (-43), 3) := by decide +kernel
theorem dX8_together_60 : decode cX8_together 60 = .ok (.iload 5, 2) := by decide +kernel
theorem dX8_together_62 : decode cX8_together 62 = .ok (.ireturn, 1) := by decide +kernel
theorem dX8_disjointLength_0 : decode cX8_disjointLength 0 = .ok (.aload_n 0, 1) := by decide +kernel
theorem dX8_disjointLength_1 : decode cX8_disjointLength 1 = .ok (.iload_n 1, 1) := by decide +kernel
theorem dX8_disjointLength_2 : decode cX8_disjointLength 2 = .ok (.iload_n 2, 1) := by decide +kernel
theorem dX8_disjointLength_3 : decode cX8_disjointLength 3 = .ok (.invokevirtual 121, 3) := by decide +kernel
theorem dX8_disjointLength_6 : decode cX8_disjointLength 6 = .ok (.ifCond .eq 16, 3) := by decide +kernel
theorem dX8_disjointLength_9 : decode cX8_disjointLength 9 = .ok (.iload_n 3, 1) := by decide +kernel
theorem dX8_disjointLength_10 : decode cX8_disjointLength 10 = .ok (.iconst 1, 1) := by decide +kernel
theorem dX8_disjointLength_11 : decode cX8_disjointLength 11 = .ok (.iconst 4, 1) := by decide +kernel
theorem dX8_disjointLength_12 : decode cX8_disjointLength 12 = .ok (.invokestatic 93, 3) := by decide +kernel
theorem dX8_disjointLength_15 : decode cX8_disjointLength 15 = .ok (.ifCond .eq 7, 3) := by decide +kernel
theorem dX8_disjointLength_18 : decode cX8_disjointLength 18 = .ok (.iconst 1, 1) := by decide +kernel
theorem dX8_disjointLength_19 : decode cX8_disjointLength 19 = .ok (.goto 4, 3) := by decide +kernel
theorem dX8_disjointLength_22 : decode cX8_disjointLength 22 = .ok (.iconst 0, 1) := by decide +kernel
theorem dX8_disjointLength_23 : decode cX8_disjointLength 23 = .ok (.istore 5, 2) := by decide +kernel
theorem dX8_disjointLength_25 : decode cX8_disjointLength 25 = .ok (.iload 5, 2) := by decide +kernel
theorem dX8_disjointLength_27 : decode cX8_disjointLength 27 = .ok (.ifCond .eq 15, 3) := by decide +kernel
theorem dX8_disjointLength_30 : decode cX8_disjointLength 30 = .ok (.aload_n 0, 1) := by decide +kernel
theorem dX8_disjointLength_31 : decode cX8_disjointLength 31 = .ok (.iload_n 1, 1) := by decide +kernel
theorem dX8_disjointLength_32 : decode cX8_disjointLength 32 = .ok (.iload_n 2, 1) := by decide +kernel
theorem dX8_disjointLength_33 : decode cX8_disjointLength 33 = .ok (.iload_n 3, 1) := by decide +kernel
theorem dX8_disjointLength_34 : decode cX8_disjointLength 34 = .ok (.iload 4, 2) := by decide +kernel
theorem dX8_disjointLength_36 : decode cX8_disjointLength 36 = .ok (.invokevirtual 221, 3) := by decide +kernel
theorem dX8_disjointLength_39 : decode cX8_disjointLength 39 = .ok (.goto 4, 3) := by decide +kernel
theorem dX8_disjointLength_42 : decode cX8_disjointLength 42 = .ok (.iconst 0, 1) := by decide +kernel
theorem dX8_disjointLength_43 : decode cX8_disjointLength 43 = .ok (.istore 6, 2) := by decide +kernel
theorem dX8_disjointLength_45 : decode cX8_disjointLength 45 = .ok (.aload_n 0, 1) := by decide +kernel
theorem dX8_disjointLength_46 : decode cX8_disjointLength 46 = .ok (.iload 5, 2) := by decide +kernel
theorem dX8_disjointLength_48 : decode cX8_disjointLength 48 = .ok (.ifCond .ne 7, 3) := by decide +kernel
theorem dX8_disjointLength_51 : decode cX8_disjointLength 51 = .ok (.iconst 1, 1) := by decide +kernel
theorem dX8_disjointLength_52 : decode cX8_disjointLength 52 = .ok (.goto 15, 3) := by decide +kernel
theorem dX8_disjointLength_55 : decode cX8_disjointLength 55 = .ok (.iload 6, 2) := by decide +kernel
theorem dX8_disjointLength_57 : decode cX8_disjointLength 57 = .ok (.ldc 130, 2) := by decide +kernel
theorem dX8_disjointLength_59 : decode cX8_disjointLength 59 = .ok (.if_icmp .ne 7, 3) := by decide +kernel
theorem dX8_disjointLength_62 : decode cX8_disjointLength 62 = .ok (.iconst 2, 1) := by decide +kernel
theorem dX8_disjointLength_63 : decode cX8_disjointLength 63 = .ok (.goto 4, 3) := by decide +kernel
theorem dX8_disjointLength_66 : decode cX8_disjointLength 66 = .ok (.iconst 0, 1) := by decide +kernel
theorem dX8_disjointLength_67 : decode cX8_disjointLength 67 = .ok (.invokevirtual 115, 3) := by decide +kernel
theorem dX8_disjointLength_70 : decode cX8_disjointLength 70 = .ok (.ifCond .eq 8, 3) := by decide +kernel
theorem dX8_disjointLength_73 : decode cX8_disjointLength 73 = .ok (.iload 6, 2) := by decide +kernel
theorem dX8_disjointLength_75 : decode cX8_disjointLength 75 = .ok (.goto 4, 3) := by decide +kernel
theorem dX8_disjointLength_78 : decode cX8_disjointLength 78 = .ok (.iconst 0, 1) := by decide +kernel
theorem dX8_disjointLength_79 : decode cX8_disjointLength 79 = .ok (.ireturn, 1) := by decide +kernel
theorem dX8_mayFollow_0 : decode cX8_mayFollow 0 = .ok (.aload_n 0, 1) := by decide +kernel
theorem dX8_mayFollow_1 : decode cX8_mayFollow 1 = .ok (.iload_n 2, 1) := by decide +kernel
theorem dX8_mayFollow_2 : decode cX8_mayFollow 2 = .ok (.invokevirtual 127, 3) := by decide +kernel
theorem dX8_mayFollow_5 : decode cX8_mayFollow 5 = .ok (.ifCond .eq 36, 3) := by decide +kernel
theorem dX8_mayFollow_8 : decode cX8_mayFollow 8 = .ok (.aload_n 0, 1) := by decide +kernel
theorem dX8_mayFollow_9 : decode cX8_mayFollow 9 = .ok (.getfield 13, 3) := by decide +kernel
theorem dX8_mayFollow_12 : decode cX8_mayFollow 12 = .ok (.iload_n 2, 1) := by decide +kernel
theorem dX8_mayFollow_13 : decode cX8_mayFollow 13 = .ok (.iaload, 1) := by decide +kernel
theorem dX8_mayFollow_14 : decode cX8_mayFollow 14 = .ok (.aload_n 0, 1) := by decide +kernel
theorem dX8_mayFollow_15 : decode cX8_mayFollow 15 = .ok (.getfield 17, 3) := by decide +kernel
theorem dX8_mayFollow_18 : decode cX8_mayFollow 18 = .ok (.iload_n 1, 1) := by decide +kernel
theorem dX8_mayFollow_19 : decode cX8_mayFollow 19 = .ok (.iaload, 1) := by decide +kernel
theorem dX8_mayFollow_20 : decode cX8_mayFollow 20 = .ok (.if_icmp .ne 21, 3) := by decide +kernel
theorem dX8_mayFollow_23 : decode cX8_mayFollow 23 = .ok (.aload_n 0, 1) := by decide +kernel
theorem dX8_mayFollow_24 : decode cX8_mayFollow 24 = .ok (.getfield 30, 3) := by decide +kernel
theorem dX8_mayFollow_27 : decode cX8_mayFollow 27 = .ok (.bipush 24, 2) := by decide +kernel
theorem dX8_mayFollow_29 : decode cX8_mayFollow 29 = .ok (.iload_n 1, 1) := by decide +kernel
theorem dX8_mayFollow_30 : decode cX8_mayFollow 30 = .ok (.imul, 1) := by decide +kernel
theorem dX8_mayFollow_31 : decode cX8_mayFollow 31 = .ok (.iload_n 2, 1) := by decide +kernel
theorem dX8_mayFollow_32 : decode cX8_mayFollow 32 = .ok (.iadd, 1) := by decide +kernel
theorem dX8_mayFollow_33 : decode cX8_mayFollow 33 = .ok (.baload, 1) := by decide +kernel
theorem dX8_mayFollow_34 : decode cX8_mayFollow 34 = .ok (.ifCond .ne 7, 3) := by decide +kernel
theorem dX8_mayFollow_37 : decode cX8_mayFollow 37 = .ok (.iconst 1, 1) := by decide +kernel
theorem dX8_mayFollow_38 : decode cX8_mayFollow 38 = .ok (.goto 4, 3) := by decide +kernel
theorem dX8_mayFollow_41 : decode cX8_mayFollow 41 = .ok (.iconst 0, 1) := by decide +kernel
theorem dX8_mayFollow_42 : decode cX8_mayFollow 42 = .ok (.ireturn, 1) := by decide +kernel
theorem dX8_laysRests_0 : decode cX8_laysRests 0 = .ok (.iconst 0, 1) := by decide +kernel
theorem dX8_laysRests_1 : decode cX8_laysRests 1 = .ok (.istore_n 2, 1) := by decide +kernel
theorem dX8_laysRests_2 : decode cX8_laysRests 2 = .ok (.iload_n 2, 1) := by decide +kernel
theorem dX8_laysRests_3 : decode cX8_laysRests 3 = .ok (.aload_n 0, 1) := by decide +kernel
theorem dX8_laysRests_4 : decode cX8_laysRests 4 = .ok (.getfield 105, 3) := by decide +kernel
theorem dX8_laysRests_7 : decode cX8_laysRests 7 = .ok (.if_icmp .ge 44, 3) := by decide +kernel
theorem dX8_laysRests_10 : decode cX8_laysRests 10 = .ok (.aload_n 0, 1) := by decide +kernel
theorem dX8_laysRests_11 : decode cX8_laysRests 11 = .ok (.getfield 84, 3) := by decide +kernel
theorem dX8_laysRests_14 : decode cX8_laysRests 14 = .ok (.iload_n 2, 1) := by decide +kernel
theorem dX8_laysRests_15 : decode cX8_laysRests 15 = .ok (.aload_n 0, 1) := by decide +kernel
theorem dX8_laysRests_16 : decode cX8_laysRests 16 = .ok (.iload_n 2, 1) := by decide +kernel
theorem dX8_laysRests_17 : decode cX8_laysRests 17 = .ok (.invokevirtual 127, 3) := by decide +kernel
theorem dX8_laysRests_20 : decode cX8_laysRests 20 = .ok (.ifCond .eq 22, 3) := by decide +kernel
theorem dX8_laysRests_23 : decode cX8_laysRests 23 = .ok (.aload_n 0, 1) := by decide +kernel
theorem dX8_laysRests_24 : decode cX8_laysRests 24 = .ok (.getfield 17, 3) := by decide +kernel
theorem dX8_laysRests_27 : decode cX8_laysRests 27 = .ok (.iload_n 2, 1) := by decide +kernel
theorem dX8_laysRests_28 : decode cX8_laysRests 28 = .ok (.iaload, 1) := by decide +kernel
theorem dX8_laysRests_29 : decode cX8_laysRests 29 = .ok (.iload_n 1, 1) := by decide +kernel
theorem dX8_laysRests_30 : decode cX8_laysRests 30 = .ok (.if_icmp .ne 12, 3) := by decide +kernel
theorem dX8_laysRests_33 : decode cX8_laysRests 33 = .ok (.aload_n 0, 1) := by decide +kernel
theorem dX8_laysRests_34 : decode cX8_laysRests 34 = .ok (.getfield 20, 3) := by decide +kernel
theorem dX8_laysRests_37 : decode cX8_laysRests 37 = .ok (.iload_n 2, 1) := by decide +kernel
theorem dX8_laysRests_38 : decode cX8_laysRests 38 = .ok (.iaload, 1) := by decide +kernel
theorem dX8_laysRests_39 : decode cX8_laysRests 39 = .ok (.goto 5, 3) := by decide +kernel
theorem dX8_laysRests_42 : decode cX8_laysRests 42 = .ok (.ldc 130, 2) := by decide +kernel
theorem dX8_laysRests_44 : decode cX8_laysRests 44 = .ok (.iastore, 1) := by decide +kernel
theorem dX8_laysRests_45 : decode cX8_laysRests 45 = .ok (.iinc 2 1, 3) := by decide +kernel
theorem dX8_laysRests_48 : decode cX8_laysRests 48 = .ok (.goto (-46), 3) := by decide +kernel
theorem dX8_laysRests_51 : decode cX8_laysRests 51 = .ok (.iconst 0, 1) := by decide +kernel
theorem dX8_laysRests_52 : decode cX8_laysRests 52 = .ok (.istore_n 2, 1) := by decide +kernel
theorem dX8_laysRests_53 : decode cX8_laysRests 53 = .ok (.iload_n 2, 1) := by decide +kernel
theorem dX8_laysRests_54 : decode cX8_laysRests 54 = .ok (.aload_n 0, 1) := by decide +kernel
theorem dX8_laysRests_55 : decode cX8_laysRests 55 = .ok (.getfield 105, 3) := by decide +kernel
theorem dX8_laysRests_58 : decode cX8_laysRests 58 = .ok (.if_icmp .ge 104, 3) := by decide +kernel
theorem dX8_laysRests_61 : decode cX8_laysRests 61 = .ok (.iconst 0, 1) := by decide +kernel
theorem dX8_laysRests_62 : decode cX8_laysRests 62 = .ok (.istore_n 3, 1) := by decide +kernel
theorem dX8_laysRests_63 : decode cX8_laysRests 63 = .ok (.iload_n 3, 1) := by decide +kernel
theorem dX8_laysRests_64 : decode cX8_laysRests 64 = .ok (.aload_n 0, 1) := by decide +kernel
theorem dX8_laysRests_65 : decode cX8_laysRests 65 = .ok (.getfield 105, 3) := by decide +kernel
theorem dX8_laysRests_68 : decode cX8_laysRests 68 = .ok (.if_icmp .ge 88, 3) := by decide +kernel
theorem dX8_laysRests_71 : decode cX8_laysRests 71 = .ok (.iconst 0, 1) := by decide +kernel
theorem dX8_laysRests_72 : decode cX8_laysRests 72 = .ok (.istore 4, 2) := by decide +kernel
theorem dX8_laysRests_74 : decode cX8_laysRests 74 = .ok (.iload 4, 2) := by decide +kernel
theorem dX8_laysRests_76 : decode cX8_laysRests 76 = .ok (.aload_n 0, 1) := by decide +kernel
theorem dX8_laysRests_77 : decode cX8_laysRests 77 = .ok (.getfield 105, 3) := by decide +kernel
theorem dX8_laysRests_80 : decode cX8_laysRests 80 = .ok (.if_icmp .ge 70, 3) := by decide +kernel
theorem dX8_laysRests_83 : decode cX8_laysRests 83 = .ok (.aload_n 0, 1) := by decide +kernel
theorem dX8_laysRests_84 : decode cX8_laysRests 84 = .ok (.iload_n 3, 1) := by decide +kernel
theorem dX8_laysRests_85 : decode cX8_laysRests 85 = .ok (.invokevirtual 127, 3) := by decide +kernel
theorem dX8_laysRests_88 : decode cX8_laysRests 88 = .ok (.ifCond .eq 56, 3) := by decide +kernel
theorem dX8_laysRests_91 : decode cX8_laysRests 91 = .ok (.aload_n 0, 1) := by decide +kernel
theorem dX8_laysRests_92 : decode cX8_laysRests 92 = .ok (.iload_n 3, 1) := by decide +kernel
theorem dX8_laysRests_93 : decode cX8_laysRests 93 = .ok (.iload 4, 2) := by decide +kernel
theorem dX8_laysRests_95 : decode cX8_laysRests 95 = .ok (.invokevirtual 224, 3) := by decide +kernel
theorem dX8_laysRests_98 : decode cX8_laysRests 98 = .ok (.ifCond .eq 46, 3) := by decide +kernel
theorem dX8_laysRests_101 : decode cX8_laysRests 101 = .ok (.aload_n 0, 1) := by decide +kernel
theorem dX8_laysRests_102 : decode cX8_laysRests 102 = .ok (.getfield 84, 3) := by decide +kernel
theorem dX8_laysRests_105 : decode cX8_laysRests 105 = .ok (.iload 4, 2) := by decide +kernel
theorem dX8_laysRests_107 : decode cX8_laysRests 107 = .ok (.iaload, 1) := by decide +kernel
theorem dX8_laysRests_108 : decode cX8_laysRests 108 = .ok (.aload_n 0, 1) := by decide +kernel
theorem dX8_laysRests_109 : decode cX8_laysRests 109 = .ok (.getfield 20, 3) := by decide +kernel
theorem dX8_laysRests_112 : decode cX8_laysRests 112 = .ok (.iload_n 3, 1) := by decide +kernel
theorem dX8_laysRests_113 : decode cX8_laysRests 113 = .ok (.iaload, 1) := by decide +kernel
theorem dX8_laysRests_114 : decode cX8_laysRests 114 = .ok (.iadd, 1) := by decide +kernel
theorem dX8_laysRests_115 : decode cX8_laysRests 115 = .ok (.aload_n 0, 1) := by decide +kernel
theorem dX8_laysRests_116 : decode cX8_laysRests 116 = .ok (.getfield 84, 3) := by decide +kernel
theorem dX8_laysRests_119 : decode cX8_laysRests 119 = .ok (.iload_n 3, 1) := by decide +kernel
theorem dX8_laysRests_120 : decode cX8_laysRests 120 = .ok (.iaload, 1) := by decide +kernel
theorem dX8_laysRests_121 : decode cX8_laysRests 121 = .ok (.if_icmp .ge 23, 3) := by decide +kernel
theorem dX8_laysRests_124 : decode cX8_laysRests 124 = .ok (.aload_n 0, 1) := by decide +kernel
theorem dX8_laysRests_125 : decode cX8_laysRests 125 = .ok (.getfield 84, 3) := by decide +kernel
theorem dX8_laysRests_128 : decode cX8_laysRests 128 = .ok (.iload_n 3, 1) := by decide +kernel
theorem dX8_laysRests_129 : decode cX8_laysRests 129 = .ok (.aload_n 0, 1) := by decide +kernel
theorem dX8_laysRests_130 : decode cX8_laysRests 130 = .ok (.getfield 84, 3) := by decide +kernel
theorem dX8_laysRests_133 : decode cX8_laysRests 133 = .ok (.iload 4, 2) := by decide +kernel
theorem dX8_laysRests_135 : decode cX8_laysRests 135 = .ok (.iaload, 1) := by decide +kernel
theorem dX8_laysRests_136 : decode cX8_laysRests 136 = .ok (.aload_n 0, 1) := by decide +kernel
theorem dX8_laysRests_137 : decode cX8_laysRests 137 = .ok (.getfield 20, 3) := by decide +kernel
theorem dX8_laysRests_140 : decode cX8_laysRests 140 = .ok (.iload_n 3, 1) := by decide +kernel
theorem dX8_laysRests_141 : decode cX8_laysRests 141 = .ok (.iaload, 1) := by decide +kernel
theorem dX8_laysRests_142 : decode cX8_laysRests 142 = .ok (.iadd, 1) := by decide +kernel
theorem dX8_laysRests_143 : decode cX8_laysRests 143 = .ok (.iastore, 1) := by decide +kernel
theorem dX8_laysRests_144 : decode cX8_laysRests 144 = .ok (.iinc 4 1, 3) := by decide +kernel
theorem dX8_laysRests_147 : decode cX8_laysRests 147 = .ok (.goto (-73), 3) := by decide +kernel
theorem dX8_laysRests_150 : decode cX8_laysRests 150 = .ok (.iinc 3 1, 3) := by decide +kernel
theorem dX8_laysRests_153 : decode cX8_laysRests 153 = .ok (.goto (-90), 3) := by decide +kernel
theorem dX8_laysRests_156 : decode cX8_laysRests 156 = .ok (.iinc 2 1, 3) := by decide +kernel
theorem dX8_laysRests_159 : decode cX8_laysRests 159 = .ok (.goto (-106), 3) := by decide +kernel
theorem dX8_laysRests_162 : decode cX8_laysRests 162 = .ok (.return_, 1) := by decide +kernel
theorem dX8_laysAllowed_0 : decode cX8_laysAllowed 0 = .ok (.aload_n 0, 1) := by decide +kernel
theorem dX8_laysAllowed_1 : decode cX8_laysAllowed 1 = .ok (.iconst 0, 1) := by decide +kernel
theorem dX8_laysAllowed_2 : decode cX8_laysAllowed 2 = .ok (.putfield 227, 3) := by decide +kernel
theorem dX8_laysAllowed_5 : decode cX8_laysAllowed 5 = .ok (.iload_n 1, 1) := by decide +kernel
theorem dX8_laysAllowed_6 : decode cX8_laysAllowed 6 = .ok (.iload_n 2, 1) := by decide +kernel
theorem dX8_laysAllowed_7 : decode cX8_laysAllowed 7 = .ok (.if_icmp .ne 5, 3) := by decide +kernel
theorem dX8_laysAllowed_10 : decode cX8_laysAllowed 10 = .ok (.iconst 0, 1) := by decide +kernel
theorem dX8_laysAllowed_11 : decode cX8_laysAllowed 11 = .ok (.ireturn, 1) := by decide +kernel
theorem dX8_laysAllowed_12 : decode cX8_laysAllowed 12 = .ok (.aload_n 0, 1) := by decide +kernel
theorem dX8_laysAllowed_13 : decode cX8_laysAllowed 13 = .ok (.iload_n 2, 1) := by decide +kernel
theorem dX8_laysAllowed_14 : decode cX8_laysAllowed 14 = .ok (.invokevirtual 230, 3) := by decide +kernel
theorem dX8_laysAllowed_17 : decode cX8_laysAllowed 17 = .ok (.iconst (-1), 1) := by decide +kernel
theorem dX8_laysAllowed_18 : decode cX8_laysAllowed 18 = .ok (.istore_n 3, 1) := by decide +kernel
theorem dX8_laysAllowed_19 : decode cX8_laysAllowed 19 = .ok (.iconst 0, 1) := by decide +kernel
theorem dX8_laysAllowed_20 : decode cX8_laysAllowed 20 = .ok (.istore 4, 2) := by decide +kernel
theorem dX8_laysAllowed_22 : decode cX8_laysAllowed 22 = .ok (.iload 4, 2) := by decide +kernel
theorem dX8_laysAllowed_24 : decode cX8_laysAllowed 24 = .ok (.aload_n 0, 1) := by decide +kernel
theorem dX8_laysAllowed_25 : decode cX8_laysAllowed 25 = .ok (.getfield 105, 3) := by decide +kernel
theorem dX8_laysAllowed_28 : decode cX8_laysAllowed 28 = .ok (.if_icmp .ge 55, 3) := by decide +kernel
theorem dX8_laysAllowed_31 : decode cX8_laysAllowed 31 = .ok (.aload_n 0, 1) := by decide +kernel
theorem dX8_laysAllowed_32 : decode cX8_laysAllowed 32 = .ok (.getfield 13, 3) := by decide +kernel
theorem dX8_laysAllowed_35 : decode cX8_laysAllowed 35 = .ok (.iload 4, 2) := by decide +kernel
theorem dX8_laysAllowed_37 : decode cX8_laysAllowed 37 = .ok (.iaload, 1) := by decide +kernel
theorem dX8_laysAllowed_38 : decode cX8_laysAllowed 38 = .ok (.iload_n 1, 1) := by decide +kernel
theorem dX8_laysAllowed_39 : decode cX8_laysAllowed 39 = .ok (.if_icmp .ne 38, 3) := by decide +kernel
theorem dX8_laysAllowed_42 : decode cX8_laysAllowed 42 = .ok (.aload_n 0, 1) := by decide +kernel
theorem dX8_laysAllowed_43 : decode cX8_laysAllowed 43 = .ok (.getfield 84, 3) := by decide +kernel
theorem dX8_laysAllowed_46 : decode cX8_laysAllowed 46 = .ok (.iload 4, 2) := by decide +kernel
theorem dX8_laysAllowed_48 : decode cX8_laysAllowed 48 = .ok (.iaload, 1) := by decide +kernel
theorem dX8_laysAllowed_49 : decode cX8_laysAllowed 49 = .ok (.ldc 130, 2) := by decide +kernel
theorem dX8_laysAllowed_51 : decode cX8_laysAllowed 51 = .ok (.if_icmp .ge 26, 3) := by decide +kernel
theorem dX8_laysAllowed_54 : decode cX8_laysAllowed 54 = .ok (.iload_n 3, 1) := by decide +kernel
theorem dX8_laysAllowed_55 : decode cX8_laysAllowed 55 = .ok (.ifCond .lt 19, 3) := by decide +kernel
theorem dX8_laysAllowed_58 : decode cX8_laysAllowed 58 = .ok (.aload_n 0, 1) := by decide +kernel
theorem dX8_laysAllowed_59 : decode cX8_laysAllowed 59 = .ok (.getfield 84, 3) := by decide +kernel
theorem dX8_laysAllowed_62 : decode cX8_laysAllowed 62 = .ok (.iload 4, 2) := by decide +kernel
theorem dX8_laysAllowed_64 : decode cX8_laysAllowed 64 = .ok (.iaload, 1) := by decide +kernel
theorem dX8_laysAllowed_65 : decode cX8_laysAllowed 65 = .ok (.aload_n 0, 1) := by decide +kernel
theorem dX8_laysAllowed_66 : decode cX8_laysAllowed 66 = .ok (.getfield 84, 3) := by decide +kernel
theorem dX8_laysAllowed_69 : decode cX8_laysAllowed 69 = .ok (.iload_n 3, 1) := by decide +kernel
theorem dX8_laysAllowed_70 : decode cX8_laysAllowed 70 = .ok (.iaload, 1) := by decide +kernel
theorem dX8_laysAllowed_71 : decode cX8_laysAllowed 71 = .ok (.if_icmp .ge 6, 3) := by decide +kernel
theorem dX8_laysAllowed_74 : decode cX8_laysAllowed 74 = .ok (.iload 4, 2) := by decide +kernel
theorem dX8_laysAllowed_76 : decode cX8_laysAllowed 76 = .ok (.istore_n 3, 1) := by decide +kernel
theorem dX8_laysAllowed_77 : decode cX8_laysAllowed 77 = .ok (.iinc 4 1, 3) := by decide +kernel
theorem dX8_laysAllowed_80 : decode cX8_laysAllowed 80 = .ok (.goto (-58), 3) := by decide +kernel
theorem dX8_laysAllowed_83 : decode cX8_laysAllowed 83 = .ok (.iload_n 3, 1) := by decide +kernel
theorem dX8_laysAllowed_84 : decode cX8_laysAllowed 84 = .ok (.ifCond .ge 6, 3) := by decide +kernel
theorem dX8_laysAllowed_87 : decode cX8_laysAllowed 87 = .ok (.ldc 130, 2) := by decide +kernel
theorem dX8_laysAllowed_89 : decode cX8_laysAllowed 89 = .ok (.ireturn, 1) := by decide +kernel
theorem dX8_laysAllowed_90 : decode cX8_laysAllowed 90 = .ok (.iload_n 3, 1) := by decide +kernel
theorem dX8_laysAllowed_91 : decode cX8_laysAllowed 91 = .ok (.istore 4, 2) := by decide +kernel
theorem dX8_laysAllowed_93 : decode cX8_laysAllowed 93 = .ok (.iload 4, 2) := by decide +kernel
theorem dX8_laysAllowed_95 : decode cX8_laysAllowed 95 = .ok (.iconst (-1), 1) := by decide +kernel
theorem dX8_laysAllowed_96 : decode cX8_laysAllowed 96 = .ok (.if_icmp .eq 35, 3) := by decide +kernel
theorem dX8_laysAllowed_99 : decode cX8_laysAllowed 99 = .ok (.aload_n 0, 1) := by decide +kernel
theorem dX8_laysAllowed_100 : decode cX8_laysAllowed 100 = .ok (.getfield 87, 3) := by decide +kernel
theorem dX8_laysAllowed_103 : decode cX8_laysAllowed 103 = .ok (.aload_n 0, 1) := by decide +kernel
theorem dX8_laysAllowed_104 : decode cX8_laysAllowed 104 = .ok (.getfield 227, 3) := by decide +kernel
theorem dX8_laysAllowed_107 : decode cX8_laysAllowed 107 = .ok (.iload 4, 2) := by decide +kernel
theorem dX8_laysAllowed_109 : decode cX8_laysAllowed 109 = .ok (.iastore, 1) := by decide +kernel
theorem dX8_laysAllowed_110 : decode cX8_laysAllowed 110 = .ok (.aload_n 0, 1) := by decide +kernel
theorem dX8_laysAllowed_111 : decode cX8_laysAllowed 111 = .ok (.dup, 1) := by decide +kernel
theorem dX8_laysAllowed_112 : decode cX8_laysAllowed 112 = .ok (.getfield 227, 3) := by decide +kernel
theorem dX8_laysAllowed_115 : decode cX8_laysAllowed 115 = .ok (.iconst 1, 1) := by decide +kernel
theorem dX8_laysAllowed_116 : decode cX8_laysAllowed 116 = .ok (.iadd, 1) := by decide +kernel
theorem dX8_laysAllowed_117 : decode cX8_laysAllowed 117 = .ok (.putfield 227, 3) := by decide +kernel
theorem dX8_laysAllowed_120 : decode cX8_laysAllowed 120 = .ok (.aload_n 0, 1) := by decide +kernel
theorem dX8_laysAllowed_121 : decode cX8_laysAllowed 121 = .ok (.iload 4, 2) := by decide +kernel
theorem dX8_laysAllowed_123 : decode cX8_laysAllowed 123 = .ok (.invokevirtual 233, 3) := by decide +kernel
theorem dX8_laysAllowed_126 : decode cX8_laysAllowed 126 = .ok (.istore 4, 2) := by decide +kernel
theorem dX8_laysAllowed_128 : decode cX8_laysAllowed 128 = .ok (.goto (-35), 3) := by decide +kernel
theorem dX8_laysAllowed_131 : decode cX8_laysAllowed 131 = .ok (.aload_n 0, 1) := by decide +kernel
theorem dX8_laysAllowed_132 : decode cX8_laysAllowed 132 = .ok (.getfield 84, 3) := by decide +kernel
theorem dX8_laysAllowed_135 : decode cX8_laysAllowed 135 = .ok (.iload_n 3, 1) := by decide +kernel
theorem dX8_laysAllowed_136 : decode cX8_laysAllowed 136 = .ok (.iaload, 1) := by decide +kernel
theorem dX8_laysAllowed_137 : decode cX8_laysAllowed 137 = .ok (.ireturn, 1) := by decide +kernel
theorem dX8_nextOf_0 : decode cX8_nextOf 0 = .ok (.aload_n 0, 1) := by decide +kernel
theorem dX8_nextOf_1 : decode cX8_nextOf 1 = .ok (.getfield 84, 3) := by decide +kernel
theorem dX8_nextOf_4 : decode cX8_nextOf 4 = .ok (.iload_n 1, 1) := by decide +kernel
theorem dX8_nextOf_5 : decode cX8_nextOf 5 = .ok (.iaload, 1) := by decide +kernel
theorem dX8_nextOf_6 : decode cX8_nextOf 6 = .ok (.aload_n 0, 1) := by decide +kernel
theorem dX8_nextOf_7 : decode cX8_nextOf 7 = .ok (.getfield 20, 3) := by decide +kernel
theorem dX8_nextOf_10 : decode cX8_nextOf 10 = .ok (.iload_n 1, 1) := by decide +kernel
theorem dX8_nextOf_11 : decode cX8_nextOf 11 = .ok (.iaload, 1) := by decide +kernel
theorem dX8_nextOf_12 : decode cX8_nextOf 12 = .ok (.isub, 1) := by decide +kernel
theorem dX8_nextOf_13 : decode cX8_nextOf 13 = .ok (.istore_n 2, 1) := by decide +kernel
theorem dX8_nextOf_14 : decode cX8_nextOf 14 = .ok (.iconst 0, 1) := by decide +kernel
theorem dX8_nextOf_15 : decode cX8_nextOf 15 = .ok (.istore_n 3, 1) := by decide +kernel
theorem dX8_nextOf_16 : decode cX8_nextOf 16 = .ok (.iload_n 3, 1) := by decide +kernel
theorem dX8_nextOf_17 : decode cX8_nextOf 17 = .ok (.aload_n 0, 1) := by decide +kernel
theorem dX8_nextOf_18 : decode cX8_nextOf 18 = .ok (.getfield 105, 3) := by decide +kernel
theorem dX8_nextOf_21 : decode cX8_nextOf 21 = .ok (.if_icmp .ge 34, 3) := by decide +kernel
theorem dX8_nextOf_24 : decode cX8_nextOf 24 = .ok (.iload_n 2, 1) := by decide +kernel
theorem dX8_nextOf_25 : decode cX8_nextOf 25 = .ok (.ifCond .le 30, 3) := by decide +kernel
theorem dX8_nextOf_28 : decode cX8_nextOf 28 = .ok (.aload_n 0, 1) := by decide +kernel
theorem dX8_nextOf_29 : decode cX8_nextOf 29 = .ok (.iload_n 1, 1) := by decide +kernel
theorem dX8_nextOf_30 : decode cX8_nextOf 30 = .ok (.iload_n 3, 1) := by decide +kernel
theorem dX8_nextOf_31 : decode cX8_nextOf 31 = .ok (.invokevirtual 224, 3) := by decide +kernel
theorem dX8_nextOf_34 : decode cX8_nextOf 34 = .ok (.ifCond .eq 15, 3) := by decide +kernel
theorem dX8_nextOf_37 : decode cX8_nextOf 37 = .ok (.aload_n 0, 1) := by decide +kernel
theorem dX8_nextOf_38 : decode cX8_nextOf 38 = .ok (.getfield 84, 3) := by decide +kernel
theorem dX8_nextOf_41 : decode cX8_nextOf 41 = .ok (.iload_n 3, 1) := by decide +kernel
theorem dX8_nextOf_42 : decode cX8_nextOf 42 = .ok (.iaload, 1) := by decide +kernel
theorem dX8_nextOf_43 : decode cX8_nextOf 43 = .ok (.iload_n 2, 1) := by decide +kernel
theorem dX8_nextOf_44 : decode cX8_nextOf 44 = .ok (.if_icmp .ne 5, 3) := by decide +kernel
theorem dX8_nextOf_47 : decode cX8_nextOf 47 = .ok (.iload_n 3, 1) := by decide +kernel
theorem dX8_nextOf_48 : decode cX8_nextOf 48 = .ok (.ireturn, 1) := by decide +kernel
theorem dX8_nextOf_49 : decode cX8_nextOf 49 = .ok (.iinc 3 1, 3) := by decide +kernel
theorem dX8_nextOf_52 : decode cX8_nextOf 52 = .ok (.goto (-36), 3) := by decide +kernel
theorem dX8_nextOf_55 : decode cX8_nextOf 55 = .ok (.iconst (-1), 1) := by decide +kernel
theorem dX8_nextOf_56 : decode cX8_nextOf 56 = .ok (.ireturn, 1) := by decide +kernel
theorem dX8_errorOfAllowed_0 : decode cX8_errorOfAllowed 0 = .ok (.aload_n 0, 1) := by decide +kernel
theorem dX8_errorOfAllowed_1 : decode cX8_errorOfAllowed 1 = .ok (.iload_n 1, 1) := by decide +kernel
theorem dX8_errorOfAllowed_2 : decode cX8_errorOfAllowed 2 = .ok (.iload_n 2, 1) := by decide +kernel
theorem dX8_errorOfAllowed_3 : decode cX8_errorOfAllowed 3 = .ok (.invokevirtual 101, 3) := by decide +kernel
theorem dX8_errorOfAllowed_6 : decode cX8_errorOfAllowed 6 = .ok (.ifCond .ne 7, 3) := by decide +kernel
theorem dX8_errorOfAllowed_9 : decode cX8_errorOfAllowed 9 = .ok (.iconst 1, 1) := by decide +kernel
theorem dX8_errorOfAllowed_10 : decode cX8_errorOfAllowed 10 = .ok (.goto 19, 3) := by decide +kernel
theorem dX8_errorOfAllowed_13 : decode cX8_errorOfAllowed 13 = .ok (.aload_n 0, 1) := by decide +kernel
theorem dX8_errorOfAllowed_14 : decode cX8_errorOfAllowed 14 = .ok (.iload_n 1, 1) := by decide +kernel
theorem dX8_errorOfAllowed_15 : decode cX8_errorOfAllowed 15 = .ok (.iload_n 2, 1) := by decide +kernel
theorem dX8_errorOfAllowed_16 : decode cX8_errorOfAllowed 16 = .ok (.invokevirtual 237, 3) := by decide +kernel
theorem dX8_errorOfAllowed_19 : decode cX8_errorOfAllowed 19 = .ok (.ldc 130, 2) := by decide +kernel
theorem dX8_errorOfAllowed_21 : decode cX8_errorOfAllowed 21 = .ok (.if_icmp .ne 7, 3) := by decide +kernel
theorem dX8_errorOfAllowed_24 : decode cX8_errorOfAllowed 24 = .ok (.iconst 2, 1) := by decide +kernel
theorem dX8_errorOfAllowed_25 : decode cX8_errorOfAllowed 25 = .ok (.goto 4, 3) := by decide +kernel
theorem dX8_errorOfAllowed_28 : decode cX8_errorOfAllowed 28 = .ok (.iconst 0, 1) := by decide +kernel
theorem dX8_errorOfAllowed_29 : decode cX8_errorOfAllowed 29 = .ok (.ireturn, 1) := by decide +kernel
theorem dX8_allowedLength_0 : decode cX8_allowedLength 0 = .ok (.aload_n 0, 1) := by decide +kernel
theorem dX8_allowedLength_1 : decode cX8_allowedLength 1 = .ok (.aload_n 0, 1) := by decide +kernel
theorem dX8_allowedLength_2 : decode cX8_allowedLength 2 = .ok (.iload_n 1, 1) := by decide +kernel
theorem dX8_allowedLength_3 : decode cX8_allowedLength 3 = .ok (.iload_n 2, 1) := by decide +kernel
theorem dX8_allowedLength_4 : decode cX8_allowedLength 4 = .ok (.invokevirtual 240, 3) := by decide +kernel
theorem dX8_allowedLength_7 : decode cX8_allowedLength 7 = .ok (.invokevirtual 115, 3) := by decide +kernel
theorem dX8_allowedLength_10 : decode cX8_allowedLength 10 = .ok (.ifCond .eq 12, 3) := by decide +kernel
theorem dX8_allowedLength_13 : decode cX8_allowedLength 13 = .ok (.aload_n 0, 1) := by decide +kernel
theorem dX8_allowedLength_14 : decode cX8_allowedLength 14 = .ok (.iload_n 1, 1) := by decide +kernel
theorem dX8_allowedLength_15 : decode cX8_allowedLength 15 = .ok (.iload_n 2, 1) := by decide +kernel
theorem dX8_allowedLength_16 : decode cX8_allowedLength 16 = .ok (.invokevirtual 237, 3) := by decide +kernel
theorem dX8_allowedLength_19 : decode cX8_allowedLength 19 = .ok (.goto 4, 3) := by decide +kernel
theorem dX8_allowedLength_22 : decode cX8_allowedLength 22 = .ok (.iconst 0, 1) := by decide +kernel
theorem dX8_allowedLength_23 : decode cX8_allowedLength 23 = .ok (.ireturn, 1) := by decide +kernel
theorem dX8_allowedEdges_0 : decode cX8_allowedEdges 0 = .ok (.aload_n 0, 1) := by decide +kernel
theorem dX8_allowedEdges_1 : decode cX8_allowedEdges 1 = .ok (.aload_n 0, 1) := by decide +kernel
theorem dX8_allowedEdges_2 : decode cX8_allowedEdges 2 = .ok (.iload_n 1, 1) := by decide +kernel
theorem dX8_allowedEdges_3 : decode cX8_allowedEdges 3 = .ok (.iload_n 2, 1) := by decide +kernel
theorem dX8_allowedEdges_4 : decode cX8_allowedEdges 4 = .ok (.invokevirtual 240, 3) := by decide +kernel
theorem dX8_allowedEdges_7 : decode cX8_allowedEdges 7 = .ok (.invokevirtual 115, 3) := by decide +kernel
theorem dX8_allowedEdges_10 : decode cX8_allowedEdges 10 = .ok (.ifCond .eq 10, 3) := by decide +kernel
theorem dX8_allowedEdges_13 : decode cX8_allowedEdges 13 = .ok (.aload_n 0, 1) := by decide +kernel
theorem dX8_allowedEdges_14 : decode cX8_allowedEdges 14 = .ok (.getfield 227, 3) := by decide +kernel
theorem dX8_allowedEdges_17 : decode cX8_allowedEdges 17 = .ok (.goto 4, 3) := by decide +kernel
theorem dX8_allowedEdges_20 : decode cX8_allowedEdges 20 = .ok (.iconst 0, 1) := by decide +kernel
theorem dX8_allowedEdges_21 : decode cX8_allowedEdges 21 = .ok (.ireturn, 1) := by decide +kernel
theorem dX8_allowedEdge_0 : decode cX8_allowedEdge 0 = .ok (.aload_n 0, 1) := by decide +kernel
theorem dX8_allowedEdge_1 : decode cX8_allowedEdge 1 = .ok (.aload_n 0, 1) := by decide +kernel
theorem dX8_allowedEdge_2 : decode cX8_allowedEdge 2 = .ok (.iload_n 1, 1) := by decide +kernel
theorem dX8_allowedEdge_3 : decode cX8_allowedEdge 3 = .ok (.iload_n 2, 1) := by decide +kernel
theorem dX8_allowedEdge_4 : decode cX8_allowedEdge 4 = .ok (.invokevirtual 240, 3) := by decide +kernel
theorem dX8_allowedEdge_7 : decode cX8_allowedEdge 7 = .ok (.invokevirtual 115, 3) := by decide +kernel
theorem dX8_allowedEdge_10 : decode cX8_allowedEdge 10 = .ok (.ifCond .ne 5, 3) := by decide +kernel
theorem dX8_allowedEdge_13 : decode cX8_allowedEdge 13 = .ok (.iconst 0, 1) := by decide +kernel
theorem dX8_allowedEdge_14 : decode cX8_allowedEdge 14 = .ok (.ireturn, 1) := by decide +kernel
theorem dX8_allowedEdge_15 : decode cX8_allowedEdge 15 = .ok (.aload_n 0, 1) := by decide +kernel
theorem dX8_allowedEdge_16 : decode cX8_allowedEdge 16 = .ok (.iload_n 3, 1) := by decide +kernel
theorem dX8_allowedEdge_17 : decode cX8_allowedEdge 17 = .ok (.iconst 0, 1) := by decide +kernel
theorem dX8_allowedEdge_18 : decode cX8_allowedEdge 18 = .ok (.aload_n 0, 1) := by decide +kernel
theorem dX8_allowedEdge_19 : decode cX8_allowedEdge 19 = .ok (.getfield 227, 3) := by decide +kernel
theorem dX8_allowedEdge_22 : decode cX8_allowedEdge 22 = .ok (.iconst 1, 1) := by decide +kernel
theorem dX8_allowedEdge_23 : decode cX8_allowedEdge 23 = .ok (.isub, 1) := by decide +kernel
theorem dX8_allowedEdge_24 : decode cX8_allowedEdge 24 = .ok (.invokestatic 93, 3) := by decide +kernel
theorem dX8_allowedEdge_27 : decode cX8_allowedEdge 27 = .ok (.ifCond .eq 7, 3) := by decide +kernel
theorem dX8_allowedEdge_30 : decode cX8_allowedEdge 30 = .ok (.iconst 0, 1) := by decide +kernel
theorem dX8_allowedEdge_31 : decode cX8_allowedEdge 31 = .ok (.goto 4, 3) := by decide +kernel
theorem dX8_allowedEdge_34 : decode cX8_allowedEdge 34 = .ok (.iconst 2, 1) := by decide +kernel
theorem dX8_allowedEdge_35 : decode cX8_allowedEdge 35 = .ok (.invokevirtual 115, 3) := by decide +kernel
theorem dX8_allowedEdge_38 : decode cX8_allowedEdge 38 = .ok (.ifCond .eq 12, 3) := by decide +kernel
theorem dX8_allowedEdge_41 : decode cX8_allowedEdge 41 = .ok (.aload_n 0, 1) := by decide +kernel
theorem dX8_allowedEdge_42 : decode cX8_allowedEdge 42 = .ok (.getfield 87, 3) := by decide +kernel
theorem dX8_allowedEdge_45 : decode cX8_allowedEdge 45 = .ok (.iload_n 3, 1) := by decide +kernel
theorem dX8_allowedEdge_46 : decode cX8_allowedEdge 46 = .ok (.iaload, 1) := by decide +kernel
theorem dX8_allowedEdge_47 : decode cX8_allowedEdge 47 = .ok (.goto 4, 3) := by decide +kernel
theorem dX8_allowedEdge_50 : decode cX8_allowedEdge 50 = .ok (.iconst 0, 1) := by decide +kernel
theorem dX8_allowedEdge_51 : decode cX8_allowedEdge 51 = .ok (.ireturn, 1) := by decide +kernel
