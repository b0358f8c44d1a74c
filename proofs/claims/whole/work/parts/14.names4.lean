abbrev b_R_entriesFor : ByteArray := prog_4_method_47_code
abbrev y_R_entriesFor : MethodName := ⟨"OrderedVolumeModel", "entriesFor", "(Z[ZI)I"⟩
abbrev o_R_entriesFor : Cond := .code y_R_entriesFor b_R_entriesFor 10 (some .int)
abbrev rm_R_entriesFor : Room := { frames := 1, cells := 0, slots := 0, locals := 22 }
theorem d_R_entriesFor_0 : decode b_R_entriesFor 0 = .ok (.iconst 0, 1) := by decide +kernel
theorem d_R_entriesFor_1 : decode b_R_entriesFor 1 = .ok (.istore 4, 2) := by decide +kernel
theorem d_R_entriesFor_3 : decode b_R_entriesFor 3 = .ok (.iconst 0, 1) := by decide +kernel
theorem d_R_entriesFor_4 : decode b_R_entriesFor 4 = .ok (.istore 5, 2) := by decide +kernel
theorem d_R_entriesFor_6 : decode b_R_entriesFor 6 = .ok (.iload 5, 2) := by decide +kernel
theorem d_R_entriesFor_8 : decode b_R_entriesFor 8 = .ok (.bipush 18, 2) := by decide +kernel
theorem d_R_entriesFor_10 : decode b_R_entriesFor 10 = .ok (.if_icmp .ge 160, 3) := by decide +kernel
theorem d_R_entriesFor_13 : decode b_R_entriesFor 13 = .ok (.iload_n 1, 1) := by decide +kernel
theorem d_R_entriesFor_14 : decode b_R_entriesFor 14 = .ok (.ifCond .eq 17, 3) := by decide +kernel
theorem d_R_entriesFor_17 : decode b_R_entriesFor 17 = .ok (.aload_n 0, 1) := by decide +kernel
theorem d_R_entriesFor_18 : decode b_R_entriesFor 18 = .ok (.getfield 13, 3) := by decide +kernel
theorem d_R_entriesFor_21 : decode b_R_entriesFor 21 = .ok (.iload 5, 2) := by decide +kernel
theorem d_R_entriesFor_23 : decode b_R_entriesFor 23 = .ok (.iconst 0, 1) := by decide +kernel
theorem d_R_entriesFor_24 : decode b_R_entriesFor 24 = .ok (.invokestatic 44, 3) := by decide +kernel
theorem d_R_entriesFor_27 : decode b_R_entriesFor 27 = .ok (.iaload, 1) := by decide +kernel
theorem d_R_entriesFor_28 : decode b_R_entriesFor 28 = .ok (.goto 14, 3) := by decide +kernel
theorem d_R_entriesFor_31 : decode b_R_entriesFor 31 = .ok (.aload_n 0, 1) := by decide +kernel
theorem d_R_entriesFor_32 : decode b_R_entriesFor 32 = .ok (.getfield 7, 3) := by decide +kernel
theorem d_R_entriesFor_35 : decode b_R_entriesFor 35 = .ok (.iload 5, 2) := by decide +kernel
theorem d_R_entriesFor_37 : decode b_R_entriesFor 37 = .ok (.iconst 0, 1) := by decide +kernel
theorem d_R_entriesFor_38 : decode b_R_entriesFor 38 = .ok (.invokestatic 44, 3) := by decide +kernel
theorem d_R_entriesFor_41 : decode b_R_entriesFor 41 = .ok (.iaload, 1) := by decide +kernel
theorem d_R_entriesFor_42 : decode b_R_entriesFor 42 = .ok (.istore 6, 2) := by decide +kernel
theorem d_R_entriesFor_44 : decode b_R_entriesFor 44 = .ok (.iload_n 1, 1) := by decide +kernel
theorem d_R_entriesFor_45 : decode b_R_entriesFor 45 = .ok (.ifCond .eq 17, 3) := by decide +kernel
theorem d_R_entriesFor_48 : decode b_R_entriesFor 48 = .ok (.aload_n 0, 1) := by decide +kernel
theorem d_R_entriesFor_49 : decode b_R_entriesFor 49 = .ok (.getfield 13, 3) := by decide +kernel
theorem d_R_entriesFor_52 : decode b_R_entriesFor 52 = .ok (.iload 5, 2) := by decide +kernel
theorem d_R_entriesFor_54 : decode b_R_entriesFor 54 = .ok (.iconst 2, 1) := by decide +kernel
theorem d_R_entriesFor_55 : decode b_R_entriesFor 55 = .ok (.invokestatic 44, 3) := by decide +kernel
theorem d_R_entriesFor_58 : decode b_R_entriesFor 58 = .ok (.iaload, 1) := by decide +kernel
theorem d_R_entriesFor_59 : decode b_R_entriesFor 59 = .ok (.goto 14, 3) := by decide +kernel
theorem d_R_entriesFor_62 : decode b_R_entriesFor 62 = .ok (.aload_n 0, 1) := by decide +kernel
theorem d_R_entriesFor_63 : decode b_R_entriesFor 63 = .ok (.getfield 7, 3) := by decide +kernel
theorem d_R_entriesFor_66 : decode b_R_entriesFor 66 = .ok (.iload 5, 2) := by decide +kernel
theorem d_R_entriesFor_68 : decode b_R_entriesFor 68 = .ok (.iconst 2, 1) := by decide +kernel
theorem d_R_entriesFor_69 : decode b_R_entriesFor 69 = .ok (.invokestatic 44, 3) := by decide +kernel
theorem d_R_entriesFor_72 : decode b_R_entriesFor 72 = .ok (.iaload, 1) := by decide +kernel
theorem d_R_entriesFor_73 : decode b_R_entriesFor 73 = .ok (.istore 7, 2) := by decide +kernel
theorem d_R_entriesFor_75 : decode b_R_entriesFor 75 = .ok (.iconst 0, 1) := by decide +kernel
theorem d_R_entriesFor_76 : decode b_R_entriesFor 76 = .ok (.istore 8, 2) := by decide +kernel
theorem d_R_entriesFor_78 : decode b_R_entriesFor 78 = .ok (.iload 8, 2) := by decide +kernel
theorem d_R_entriesFor_80 : decode b_R_entriesFor 80 = .ok (.bipush 8, 2) := by decide +kernel
theorem d_R_entriesFor_82 : decode b_R_entriesFor 82 = .ok (.if_icmp .ge 82, 3) := by decide +kernel
theorem d_R_entriesFor_85 : decode b_R_entriesFor 85 = .ok (.aload_n 2, 1) := by decide +kernel
theorem d_R_entriesFor_86 : decode b_R_entriesFor 86 = .ok (.iload 5, 2) := by decide +kernel
theorem d_R_entriesFor_88 : decode b_R_entriesFor 88 = .ok (.baload, 1) := by decide +kernel
theorem d_R_entriesFor_89 : decode b_R_entriesFor 89 = .ok (.ifCond .eq 75, 3) := by decide +kernel
theorem d_R_entriesFor_92 : decode b_R_entriesFor 92 = .ok (.iload 6, 2) := by decide +kernel
theorem d_R_entriesFor_94 : decode b_R_entriesFor 94 = .ok (.iconst 2, 1) := by decide +kernel
theorem d_R_entriesFor_95 : decode b_R_entriesFor 95 = .ok (.if_icmp .ne 69, 3) := by decide +kernel
theorem d_R_entriesFor_98 : decode b_R_entriesFor 98 = .ok (.iload 7, 2) := by decide +kernel
theorem d_R_entriesFor_100 : decode b_R_entriesFor 100 = .ok (.ifCond .eq 64, 3) := by decide +kernel
theorem d_R_entriesFor_103 : decode b_R_entriesFor 103 = .ok (.iload_n 1, 1) := by decide +kernel
theorem d_R_entriesFor_104 : decode b_R_entriesFor 104 = .ok (.ifCond .eq 14, 3) := by decide +kernel
theorem d_R_entriesFor_107 : decode b_R_entriesFor 107 = .ok (.aload_n 0, 1) := by decide +kernel
theorem d_R_entriesFor_108 : decode b_R_entriesFor 108 = .ok (.iload 7, 2) := by decide +kernel
theorem d_R_entriesFor_110 : decode b_R_entriesFor 110 = .ok (.iload 8, 2) := by decide +kernel
theorem d_R_entriesFor_112 : decode b_R_entriesFor 112 = .ok (.invokevirtual 66, 3) := by decide +kernel
theorem d_R_entriesFor_115 : decode b_R_entriesFor 115 = .ok (.goto 16, 3) := by decide +kernel
theorem d_R_entriesFor_118 : decode b_R_entriesFor 118 = .ok (.aload_n 0, 1) := by decide +kernel
theorem d_R_entriesFor_119 : decode b_R_entriesFor 119 = .ok (.getfield 7, 3) := by decide +kernel
theorem d_R_entriesFor_122 : decode b_R_entriesFor 122 = .ok (.bipush 30, 2) := by decide +kernel
theorem d_R_entriesFor_124 : decode b_R_entriesFor 124 = .ok (.iload 7, 2) := by decide +kernel
theorem d_R_entriesFor_126 : decode b_R_entriesFor 126 = .ok (.imul, 1) := by decide +kernel
theorem d_R_entriesFor_127 : decode b_R_entriesFor 127 = .ok (.iload 8, 2) := by decide +kernel
theorem d_R_entriesFor_129 : decode b_R_entriesFor 129 = .ok (.iadd, 1) := by decide +kernel
theorem d_R_entriesFor_130 : decode b_R_entriesFor 130 = .ok (.iaload, 1) := by decide +kernel
theorem d_R_entriesFor_131 : decode b_R_entriesFor 131 = .ok (.istore 9, 2) := by decide +kernel
theorem d_R_entriesFor_133 : decode b_R_entriesFor 133 = .ok (.iload 9, 2) := by decide +kernel
theorem d_R_entriesFor_135 : decode b_R_entriesFor 135 = .ok (.ifCond .eq 19, 3) := by decide +kernel
theorem d_R_entriesFor_138 : decode b_R_entriesFor 138 = .ok (.iload 9, 2) := by decide +kernel
theorem d_R_entriesFor_140 : decode b_R_entriesFor 140 = .ok (.bipush 32, 2) := by decide +kernel
theorem d_R_entriesFor_142 : decode b_R_entriesFor 142 = .ok (.irem, 1) := by decide +kernel
theorem d_R_entriesFor_143 : decode b_R_entriesFor 143 = .ok (.iload_n 3, 1) := by decide +kernel
theorem d_R_entriesFor_144 : decode b_R_entriesFor 144 = .ok (.if_icmp .ne 10, 3) := by decide +kernel
theorem d_R_entriesFor_147 : decode b_R_entriesFor 147 = .ok (.iload 4, 2) := by decide +kernel
theorem d_R_entriesFor_149 : decode b_R_entriesFor 149 = .ok (.iconst 1, 1) := by decide +kernel
theorem d_R_entriesFor_150 : decode b_R_entriesFor 150 = .ok (.iadd, 1) := by decide +kernel
theorem d_R_entriesFor_151 : decode b_R_entriesFor 151 = .ok (.goto 5, 3) := by decide +kernel
theorem d_R_entriesFor_154 : decode b_R_entriesFor 154 = .ok (.iload 4, 2) := by decide +kernel
theorem d_R_entriesFor_156 : decode b_R_entriesFor 156 = .ok (.istore 4, 2) := by decide +kernel
theorem d_R_entriesFor_158 : decode b_R_entriesFor 158 = .ok (.iinc 8 1, 3) := by decide +kernel
theorem d_R_entriesFor_161 : decode b_R_entriesFor 161 = .ok (.goto (-83), 3) := by decide +kernel
theorem d_R_entriesFor_164 : decode b_R_entriesFor 164 = .ok (.iinc 5 1, 3) := by decide +kernel
theorem d_R_entriesFor_167 : decode b_R_entriesFor 167 = .ok (.goto (-161), 3) := by decide +kernel
theorem d_R_entriesFor_170 : decode b_R_entriesFor 170 = .ok (.iload 4, 2) := by decide +kernel
theorem d_R_entriesFor_172 : decode b_R_entriesFor 172 = .ok (.ireturn, 1) := by decide +kernel
abbrev b_R_defectsOfInode : ByteArray := prog_4_method_51_code
abbrev y_R_defectsOfInode : MethodName := ⟨"OrderedVolumeModel", "defectsOfInode", "(II)I"⟩
abbrev o_R_defectsOfInode : Cond := .code y_R_defectsOfInode b_R_defectsOfInode 7 (some .int)
abbrev rm_R_defectsOfInode : Room := { frames := 2, cells := 0, slots := 0, locals := 51 }
theorem d_R_defectsOfInode_0 : decode b_R_defectsOfInode 0 = .ok (.aload_n 0, 1) := by decide +kernel
theorem d_R_defectsOfInode_1 : decode b_R_defectsOfInode 1 = .ok (.iconst 1, 1) := by decide +kernel
theorem d_R_defectsOfInode_2 : decode b_R_defectsOfInode 2 = .ok (.aload_n 0, 1) := by decide +kernel
theorem d_R_defectsOfInode_3 : decode b_R_defectsOfInode 3 = .ok (.getfield 38, 3) := by decide +kernel
theorem d_R_defectsOfInode_6 : decode b_R_defectsOfInode 6 = .ok (.iload_n 2, 1) := by decide +kernel
theorem d_R_defectsOfInode_7 : decode b_R_defectsOfInode 7 = .ok (.invokevirtual 169, 3) := by decide +kernel
theorem d_R_defectsOfInode_10 : decode b_R_defectsOfInode 10 = .ok (.istore_n 3, 1) := by decide +kernel
theorem d_R_defectsOfInode_11 : decode b_R_defectsOfInode 11 = .ok (.aload_n 0, 1) := by decide +kernel
theorem d_R_defectsOfInode_12 : decode b_R_defectsOfInode 12 = .ok (.getfield 13, 3) := by decide +kernel
theorem d_R_defectsOfInode_15 : decode b_R_defectsOfInode 15 = .ok (.iload_n 2, 1) := by decide +kernel
theorem d_R_defectsOfInode_16 : decode b_R_defectsOfInode 16 = .ok (.iconst 1, 1) := by decide +kernel
theorem d_R_defectsOfInode_17 : decode b_R_defectsOfInode 17 = .ok (.invokestatic 44, 3) := by decide +kernel
theorem d_R_defectsOfInode_20 : decode b_R_defectsOfInode 20 = .ok (.iaload, 1) := by decide +kernel
theorem d_R_defectsOfInode_21 : decode b_R_defectsOfInode 21 = .ok (.istore 4, 2) := by decide +kernel
theorem d_R_defectsOfInode_23 : decode b_R_defectsOfInode 23 = .ok (.aload_n 0, 1) := by decide +kernel
theorem d_R_defectsOfInode_24 : decode b_R_defectsOfInode 24 = .ok (.getfield 13, 3) := by decide +kernel
theorem d_R_defectsOfInode_27 : decode b_R_defectsOfInode 27 = .ok (.iload_n 2, 1) := by decide +kernel
theorem d_R_defectsOfInode_28 : decode b_R_defectsOfInode 28 = .ok (.iconst 0, 1) := by decide +kernel
theorem d_R_defectsOfInode_29 : decode b_R_defectsOfInode 29 = .ok (.invokestatic 44, 3) := by decide +kernel
theorem d_R_defectsOfInode_32 : decode b_R_defectsOfInode 32 = .ok (.iaload, 1) := by decide +kernel
theorem d_R_defectsOfInode_33 : decode b_R_defectsOfInode 33 = .ok (.ifCond .eq 15, 3) := by decide +kernel
theorem d_R_defectsOfInode_36 : decode b_R_defectsOfInode 36 = .ok (.aload_n 0, 1) := by decide +kernel
theorem d_R_defectsOfInode_37 : decode b_R_defectsOfInode 37 = .ok (.getfield 13, 3) := by decide +kernel
theorem d_R_defectsOfInode_40 : decode b_R_defectsOfInode 40 = .ok (.iload_n 2, 1) := by decide +kernel
theorem d_R_defectsOfInode_41 : decode b_R_defectsOfInode 41 = .ok (.invokestatic 48, 3) := by decide +kernel
theorem d_R_defectsOfInode_44 : decode b_R_defectsOfInode 44 = .ok (.iaload, 1) := by decide +kernel
theorem d_R_defectsOfInode_45 : decode b_R_defectsOfInode 45 = .ok (.ifCond .ne 7, 3) := by decide +kernel
theorem d_R_defectsOfInode_48 : decode b_R_defectsOfInode 48 = .ok (.iconst 1, 1) := by decide +kernel
theorem d_R_defectsOfInode_49 : decode b_R_defectsOfInode 49 = .ok (.goto 4, 3) := by decide +kernel
theorem d_R_defectsOfInode_52 : decode b_R_defectsOfInode 52 = .ok (.iconst 0, 1) := by decide +kernel
theorem d_R_defectsOfInode_53 : decode b_R_defectsOfInode 53 = .ok (.istore 5, 2) := by decide +kernel
theorem d_R_defectsOfInode_55 : decode b_R_defectsOfInode 55 = .ok (.aload_n 0, 1) := by decide +kernel
theorem d_R_defectsOfInode_56 : decode b_R_defectsOfInode 56 = .ok (.getfield 13, 3) := by decide +kernel
theorem d_R_defectsOfInode_59 : decode b_R_defectsOfInode 59 = .ok (.iload_n 2, 1) := by decide +kernel
theorem d_R_defectsOfInode_60 : decode b_R_defectsOfInode 60 = .ok (.iconst 0, 1) := by decide +kernel
theorem d_R_defectsOfInode_61 : decode b_R_defectsOfInode 61 = .ok (.invokestatic 44, 3) := by decide +kernel
theorem d_R_defectsOfInode_64 : decode b_R_defectsOfInode 64 = .ok (.iaload, 1) := by decide +kernel
theorem d_R_defectsOfInode_65 : decode b_R_defectsOfInode 65 = .ok (.ifCond .ne 15, 3) := by decide +kernel
theorem d_R_defectsOfInode_68 : decode b_R_defectsOfInode 68 = .ok (.aload_n 0, 1) := by decide +kernel
theorem d_R_defectsOfInode_69 : decode b_R_defectsOfInode 69 = .ok (.getfield 13, 3) := by decide +kernel
theorem d_R_defectsOfInode_72 : decode b_R_defectsOfInode 72 = .ok (.iload_n 2, 1) := by decide +kernel
theorem d_R_defectsOfInode_73 : decode b_R_defectsOfInode 73 = .ok (.invokestatic 48, 3) := by decide +kernel
theorem d_R_defectsOfInode_76 : decode b_R_defectsOfInode 76 = .ok (.iaload, 1) := by decide +kernel
theorem d_R_defectsOfInode_77 : decode b_R_defectsOfInode 77 = .ok (.ifCond .eq 7, 3) := by decide +kernel
theorem d_R_defectsOfInode_80 : decode b_R_defectsOfInode 80 = .ok (.iconst 1, 1) := by decide +kernel
theorem d_R_defectsOfInode_81 : decode b_R_defectsOfInode 81 = .ok (.goto 4, 3) := by decide +kernel
theorem d_R_defectsOfInode_84 : decode b_R_defectsOfInode 84 = .ok (.iconst 0, 1) := by decide +kernel
theorem d_R_defectsOfInode_85 : decode b_R_defectsOfInode 85 = .ok (.istore 6, 2) := by decide +kernel
theorem d_R_defectsOfInode_87 : decode b_R_defectsOfInode 87 = .ok (.iload_n 1, 1) := by decide +kernel
theorem d_R_defectsOfInode_88 : decode b_R_defectsOfInode 88 = .ok (.tableswitch 121 0 5 #[40, 121, 121, 51, 71, 96], 40) := by decide +kernel
theorem d_R_defectsOfInode_128 : decode b_R_defectsOfInode 128 = .ok (.iload 5, 2) := by decide +kernel
theorem d_R_defectsOfInode_130 : decode b_R_defectsOfInode 130 = .ok (.ifCond .eq 7, 3) := by decide +kernel
theorem d_R_defectsOfInode_133 : decode b_R_defectsOfInode 133 = .ok (.iload_n 3, 1) := by decide +kernel
theorem d_R_defectsOfInode_134 : decode b_R_defectsOfInode 134 = .ok (.goto 4, 3) := by decide +kernel
theorem d_R_defectsOfInode_137 : decode b_R_defectsOfInode 137 = .ok (.iconst 0, 1) := by decide +kernel
theorem d_R_defectsOfInode_138 : decode b_R_defectsOfInode 138 = .ok (.ireturn, 1) := by decide +kernel
theorem d_R_defectsOfInode_139 : decode b_R_defectsOfInode 139 = .ok (.aload_n 0, 1) := by decide +kernel
theorem d_R_defectsOfInode_140 : decode b_R_defectsOfInode 140 = .ok (.getfield 38, 3) := by decide +kernel
theorem d_R_defectsOfInode_143 : decode b_R_defectsOfInode 143 = .ok (.iload_n 2, 1) := by decide +kernel
theorem d_R_defectsOfInode_144 : decode b_R_defectsOfInode 144 = .ok (.baload, 1) := by decide +kernel
theorem d_R_defectsOfInode_145 : decode b_R_defectsOfInode 145 = .ok (.ifCond .ne 12, 3) := by decide +kernel
theorem d_R_defectsOfInode_148 : decode b_R_defectsOfInode 148 = .ok (.iload 6, 2) := by decide +kernel
theorem d_R_defectsOfInode_150 : decode b_R_defectsOfInode 150 = .ok (.ifCond .eq 7, 3) := by decide +kernel
theorem d_R_defectsOfInode_153 : decode b_R_defectsOfInode 153 = .ok (.iconst 1, 1) := by decide +kernel
theorem d_R_defectsOfInode_154 : decode b_R_defectsOfInode 154 = .ok (.goto 4, 3) := by decide +kernel
theorem d_R_defectsOfInode_157 : decode b_R_defectsOfInode 157 = .ok (.iconst 0, 1) := by decide +kernel
theorem d_R_defectsOfInode_158 : decode b_R_defectsOfInode 158 = .ok (.ireturn, 1) := by decide +kernel
theorem d_R_defectsOfInode_159 : decode b_R_defectsOfInode 159 = .ok (.iload_n 2, 1) := by decide +kernel
theorem d_R_defectsOfInode_160 : decode b_R_defectsOfInode 160 = .ok (.ifCond .le 22, 3) := by decide +kernel
theorem d_R_defectsOfInode_163 : decode b_R_defectsOfInode 163 = .ok (.aload_n 0, 1) := by decide +kernel
theorem d_R_defectsOfInode_164 : decode b_R_defectsOfInode 164 = .ok (.getfield 38, 3) := by decide +kernel
theorem d_R_defectsOfInode_167 : decode b_R_defectsOfInode 167 = .ok (.iload_n 2, 1) := by decide +kernel
theorem d_R_defectsOfInode_168 : decode b_R_defectsOfInode 168 = .ok (.baload, 1) := by decide +kernel
theorem d_R_defectsOfInode_169 : decode b_R_defectsOfInode 169 = .ok (.ifCond .eq 13, 3) := by decide +kernel
theorem d_R_defectsOfInode_172 : decode b_R_defectsOfInode 172 = .ok (.iload 4, 2) := by decide +kernel
theorem d_R_defectsOfInode_174 : decode b_R_defectsOfInode 174 = .ok (.iload_n 3, 1) := by decide +kernel
theorem d_R_defectsOfInode_175 : decode b_R_defectsOfInode 175 = .ok (.if_icmp .le 7, 3) := by decide +kernel
theorem d_R_defectsOfInode_178 : decode b_R_defectsOfInode 178 = .ok (.iconst 1, 1) := by decide +kernel
theorem d_R_defectsOfInode_179 : decode b_R_defectsOfInode 179 = .ok (.goto 4, 3) := by decide +kernel
theorem d_R_defectsOfInode_182 : decode b_R_defectsOfInode 182 = .ok (.iconst 0, 1) := by decide +kernel
theorem d_R_defectsOfInode_183 : decode b_R_defectsOfInode 183 = .ok (.ireturn, 1) := by decide +kernel
theorem d_R_defectsOfInode_184 : decode b_R_defectsOfInode 184 = .ok (.iload_n 2, 1) := by decide +kernel
theorem d_R_defectsOfInode_185 : decode b_R_defectsOfInode 185 = .ok (.ifCond .le 22, 3) := by decide +kernel
theorem d_R_defectsOfInode_188 : decode b_R_defectsOfInode 188 = .ok (.aload_n 0, 1) := by decide +kernel
theorem d_R_defectsOfInode_189 : decode b_R_defectsOfInode 189 = .ok (.getfield 38, 3) := by decide +kernel
theorem d_R_defectsOfInode_192 : decode b_R_defectsOfInode 192 = .ok (.iload_n 2, 1) := by decide +kernel
theorem d_R_defectsOfInode_193 : decode b_R_defectsOfInode 193 = .ok (.baload, 1) := by decide +kernel
theorem d_R_defectsOfInode_194 : decode b_R_defectsOfInode 194 = .ok (.ifCond .eq 13, 3) := by decide +kernel
theorem d_R_defectsOfInode_197 : decode b_R_defectsOfInode 197 = .ok (.iload 4, 2) := by decide +kernel
theorem d_R_defectsOfInode_199 : decode b_R_defectsOfInode 199 = .ok (.iload_n 3, 1) := by decide +kernel
theorem d_R_defectsOfInode_200 : decode b_R_defectsOfInode 200 = .ok (.if_icmp .ge 7, 3) := by decide +kernel
theorem d_R_defectsOfInode_203 : decode b_R_defectsOfInode 203 = .ok (.iconst 1, 1) := by decide +kernel
theorem d_R_defectsOfInode_204 : decode b_R_defectsOfInode 204 = .ok (.goto 4, 3) := by decide +kernel
theorem d_R_defectsOfInode_207 : decode b_R_defectsOfInode 207 = .ok (.iconst 0, 1) := by decide +kernel
theorem d_R_defectsOfInode_208 : decode b_R_defectsOfInode 208 = .ok (.ireturn, 1) := by decide +kernel
theorem d_R_defectsOfInode_209 : decode b_R_defectsOfInode 209 = .ok (.iconst 0, 1) := by decide +kernel
theorem d_R_defectsOfInode_210 : decode b_R_defectsOfInode 210 = .ok (.ireturn, 1) := by decide +kernel
abbrev b_R_pointersTo : ByteArray := prog_4_method_48_code
abbrev y_R_pointersTo : MethodName := ⟨"OrderedVolumeModel", "pointersTo", "(Z[ZI)I"⟩
abbrev o_R_pointersTo : Cond := .code y_R_pointersTo b_R_pointersTo 8 (some .int)
abbrev rm_R_pointersTo : Room := { frames := 1, cells := 0, slots := 0, locals := 21 }
theorem d_R_pointersTo_0 : decode b_R_pointersTo 0 = .ok (.iconst 0, 1) := by decide +kernel
theorem d_R_pointersTo_1 : decode b_R_pointersTo 1 = .ok (.istore 4, 2) := by decide +kernel
theorem d_R_pointersTo_3 : decode b_R_pointersTo 3 = .ok (.iconst 0, 1) := by decide +kernel
theorem d_R_pointersTo_4 : decode b_R_pointersTo 4 = .ok (.istore 5, 2) := by decide +kernel
theorem d_R_pointersTo_6 : decode b_R_pointersTo 6 = .ok (.iload 5, 2) := by decide +kernel
theorem d_R_pointersTo_8 : decode b_R_pointersTo 8 = .ok (.bipush 18, 2) := by decide +kernel
theorem d_R_pointersTo_10 : decode b_R_pointersTo 10 = .ok (.if_icmp .ge 81, 3) := by decide +kernel
theorem d_R_pointersTo_13 : decode b_R_pointersTo 13 = .ok (.iconst 2, 1) := by decide +kernel
theorem d_R_pointersTo_14 : decode b_R_pointersTo 14 = .ok (.istore 6, 2) := by decide +kernel
theorem d_R_pointersTo_16 : decode b_R_pointersTo 16 = .ok (.iload 6, 2) := by decide +kernel
theorem d_R_pointersTo_18 : decode b_R_pointersTo 18 = .ok (.iconst 5, 1) := by decide +kernel
theorem d_R_pointersTo_19 : decode b_R_pointersTo 19 = .ok (.if_icmp .ge 66, 3) := by decide +kernel
theorem d_R_pointersTo_22 : decode b_R_pointersTo 22 = .ok (.aload_n 2, 1) := by decide +kernel
theorem d_R_pointersTo_23 : decode b_R_pointersTo 23 = .ok (.iload 5, 2) := by decide +kernel
theorem d_R_pointersTo_25 : decode b_R_pointersTo 25 = .ok (.baload, 1) := by decide +kernel
theorem d_R_pointersTo_26 : decode b_R_pointersTo 26 = .ok (.ifCond .eq 59, 3) := by decide +kernel
theorem d_R_pointersTo_29 : decode b_R_pointersTo 29 = .ok (.iload_n 1, 1) := by decide +kernel
theorem d_R_pointersTo_30 : decode b_R_pointersTo 30 = .ok (.ifCond .eq 18, 3) := by decide +kernel
theorem d_R_pointersTo_33 : decode b_R_pointersTo 33 = .ok (.aload_n 0, 1) := by decide +kernel
theorem d_R_pointersTo_34 : decode b_R_pointersTo 34 = .ok (.getfield 13, 3) := by decide +kernel
theorem d_R_pointersTo_37 : decode b_R_pointersTo 37 = .ok (.iload 5, 2) := by decide +kernel
theorem d_R_pointersTo_39 : decode b_R_pointersTo 39 = .ok (.iload 6, 2) := by decide +kernel
theorem d_R_pointersTo_41 : decode b_R_pointersTo 41 = .ok (.invokestatic 44, 3) := by decide +kernel
theorem d_R_pointersTo_44 : decode b_R_pointersTo 44 = .ok (.iaload, 1) := by decide +kernel
theorem d_R_pointersTo_45 : decode b_R_pointersTo 45 = .ok (.goto 15, 3) := by decide +kernel
theorem d_R_pointersTo_48 : decode b_R_pointersTo 48 = .ok (.aload_n 0, 1) := by decide +kernel
theorem d_R_pointersTo_49 : decode b_R_pointersTo 49 = .ok (.getfield 7, 3) := by decide +kernel
theorem d_R_pointersTo_52 : decode b_R_pointersTo 52 = .ok (.iload 5, 2) := by decide +kernel
theorem d_R_pointersTo_54 : decode b_R_pointersTo 54 = .ok (.iload 6, 2) := by decide +kernel
theorem d_R_pointersTo_56 : decode b_R_pointersTo 56 = .ok (.invokestatic 44, 3) := by decide +kernel
theorem d_R_pointersTo_59 : decode b_R_pointersTo 59 = .ok (.iaload, 1) := by decide +kernel
theorem d_R_pointersTo_60 : decode b_R_pointersTo 60 = .ok (.istore 7, 2) := by decide +kernel
theorem d_R_pointersTo_62 : decode b_R_pointersTo 62 = .ok (.iload 7, 2) := by decide +kernel
theorem d_R_pointersTo_64 : decode b_R_pointersTo 64 = .ok (.iload_n 3, 1) := by decide +kernel
theorem d_R_pointersTo_65 : decode b_R_pointersTo 65 = .ok (.if_icmp .ne 10, 3) := by decide +kernel
theorem d_R_pointersTo_68 : decode b_R_pointersTo 68 = .ok (.iload 4, 2) := by decide +kernel
theorem d_R_pointersTo_70 : decode b_R_pointersTo 70 = .ok (.iconst 1, 1) := by decide +kernel
theorem d_R_pointersTo_71 : decode b_R_pointersTo 71 = .ok (.iadd, 1) := by decide +kernel
theorem d_R_pointersTo_72 : decode b_R_pointersTo 72 = .ok (.goto 5, 3) := by decide +kernel
theorem d_R_pointersTo_75 : decode b_R_pointersTo 75 = .ok (.iload 4, 2) := by decide +kernel
theorem d_R_pointersTo_77 : decode b_R_pointersTo 77 = .ok (.istore 4, 2) := by decide +kernel
theorem d_R_pointersTo_79 : decode b_R_pointersTo 79 = .ok (.iinc 6 1, 3) := by decide +kernel
theorem d_R_pointersTo_82 : decode b_R_pointersTo 82 = .ok (.goto (-66), 3) := by decide +kernel
theorem d_R_pointersTo_85 : decode b_R_pointersTo 85 = .ok (.iinc 5 1, 3) := by decide +kernel
theorem d_R_pointersTo_88 : decode b_R_pointersTo 88 = .ok (.goto (-82), 3) := by decide +kernel
theorem d_R_pointersTo_91 : decode b_R_pointersTo 91 = .ok (.iload 4, 2) := by decide +kernel
theorem d_R_pointersTo_93 : decode b_R_pointersTo 93 = .ok (.ireturn, 1) := by decide +kernel
abbrev b_R_defects : ByteArray := prog_4_method_50_code
abbrev y_R_defects : MethodName := ⟨"OrderedVolumeModel", "defects", "(I)I"⟩
abbrev o_R_defects : Cond := .code y_R_defects b_R_defects 6 (some .int)
abbrev rm_R_defects : Room := { frames := 4, cells := 0, slots := 0, locals := 96 }
theorem d_R_defects_0 : decode b_R_defects 0 = .ok (.iload_n 1, 1) := by decide +kernel
theorem d_R_defects_1 : decode b_R_defects 1 = .ok (.ifCond .lt 8, 3) := by decide +kernel
theorem d_R_defects_4 : decode b_R_defects 4 = .ok (.iload_n 1, 1) := by decide +kernel
theorem d_R_defects_5 : decode b_R_defects 5 = .ok (.iconst 5, 1) := by decide +kernel
theorem d_R_defects_6 : decode b_R_defects 6 = .ok (.if_icmp .le 5, 3) := by decide +kernel
theorem d_R_defects_9 : decode b_R_defects 9 = .ok (.iconst (-1), 1) := by decide +kernel
theorem d_R_defects_10 : decode b_R_defects 10 = .ok (.ireturn, 1) := by decide +kernel
theorem d_R_defects_11 : decode b_R_defects 11 = .ok (.aload_n 0, 1) := by decide +kernel
theorem d_R_defects_12 : decode b_R_defects 12 = .ok (.iconst 1, 1) := by decide +kernel
theorem d_R_defects_13 : decode b_R_defects 13 = .ok (.aload_n 0, 1) := by decide +kernel
theorem d_R_defects_14 : decode b_R_defects 14 = .ok (.getfield 38, 3) := by decide +kernel
theorem d_R_defects_17 : decode b_R_defects 17 = .ok (.invokevirtual 69, 3) := by decide +kernel
theorem d_R_defects_20 : decode b_R_defects 20 = .ok (.iconst 0, 1) := by decide +kernel
theorem d_R_defects_21 : decode b_R_defects 21 = .ok (.istore_n 2, 1) := by decide +kernel
theorem d_R_defects_22 : decode b_R_defects 22 = .ok (.iconst 0, 1) := by decide +kernel
theorem d_R_defects_23 : decode b_R_defects 23 = .ok (.istore_n 3, 1) := by decide +kernel
theorem d_R_defects_24 : decode b_R_defects 24 = .ok (.iload_n 3, 1) := by decide +kernel
theorem d_R_defects_25 : decode b_R_defects 25 = .ok (.bipush 18, 2) := by decide +kernel
theorem d_R_defects_27 : decode b_R_defects 27 = .ok (.if_icmp .ge 18, 3) := by decide +kernel
theorem d_R_defects_30 : decode b_R_defects 30 = .ok (.iload_n 2, 1) := by decide +kernel
theorem d_R_defects_31 : decode b_R_defects 31 = .ok (.aload_n 0, 1) := by decide +kernel
theorem d_R_defects_32 : decode b_R_defects 32 = .ok (.iload_n 1, 1) := by decide +kernel
theorem d_R_defects_33 : decode b_R_defects 33 = .ok (.iload_n 3, 1) := by decide +kernel
theorem d_R_defects_34 : decode b_R_defects 34 = .ok (.invokevirtual 176, 3) := by decide +kernel
theorem d_R_defects_37 : decode b_R_defects 37 = .ok (.iadd, 1) := by decide +kernel
theorem d_R_defects_38 : decode b_R_defects 38 = .ok (.istore_n 2, 1) := by decide +kernel
theorem d_R_defects_39 : decode b_R_defects 39 = .ok (.iinc 3 1, 3) := by decide +kernel
theorem d_R_defects_42 : decode b_R_defects 42 = .ok (.goto (-18), 3) := by decide +kernel
theorem d_R_defects_45 : decode b_R_defects 45 = .ok (.iconst 0, 1) := by decide +kernel
theorem d_R_defects_46 : decode b_R_defects 46 = .ok (.istore_n 3, 1) := by decide +kernel
theorem d_R_defects_47 : decode b_R_defects 47 = .ok (.iload_n 3, 1) := by decide +kernel
theorem d_R_defects_48 : decode b_R_defects 48 = .ok (.bipush 36, 2) := by decide +kernel
theorem d_R_defects_50 : decode b_R_defects 50 = .ok (.if_icmp .ge 100, 3) := by decide +kernel
theorem d_R_defects_53 : decode b_R_defects 53 = .ok (.iload_n 1, 1) := by decide +kernel
theorem d_R_defects_54 : decode b_R_defects 54 = .ok (.iconst 3, 1) := by decide +kernel
theorem d_R_defects_55 : decode b_R_defects 55 = .ok (.if_icmp .ge 95, 3) := by decide +kernel
theorem d_R_defects_58 : decode b_R_defects 58 = .ok (.iload_n 3, 1) := by decide +kernel
theorem d_R_defects_59 : decode b_R_defects 59 = .ok (.bipush 12, 2) := by decide +kernel
theorem d_R_defects_61 : decode b_R_defects 61 = .ok (.irem, 1) := by decide +kernel
theorem d_R_defects_62 : decode b_R_defects 62 = .ok (.iconst 1, 1) := by decide +kernel
theorem d_R_defects_63 : decode b_R_defects 63 = .ok (.if_icmp .le 81, 3) := by decide +kernel
theorem d_R_defects_66 : decode b_R_defects 66 = .ok (.aload_n 0, 1) := by decide +kernel
theorem d_R_defects_67 : decode b_R_defects 67 = .ok (.iconst 1, 1) := by decide +kernel
theorem d_R_defects_68 : decode b_R_defects 68 = .ok (.aload_n 0, 1) := by decide +kernel
theorem d_R_defects_69 : decode b_R_defects 69 = .ok (.getfield 38, 3) := by decide +kernel
theorem d_R_defects_72 : decode b_R_defects 72 = .ok (.iload_n 3, 1) := by decide +kernel
theorem d_R_defects_73 : decode b_R_defects 73 = .ok (.invokevirtual 173, 3) := by decide +kernel
theorem d_R_defects_76 : decode b_R_defects 76 = .ok (.istore 4, 2) := by decide +kernel
theorem d_R_defects_78 : decode b_R_defects 78 = .ok (.aload_n 0, 1) := by decide +kernel
theorem d_R_defects_79 : decode b_R_defects 79 = .ok (.getfield 13, 3) := by decide +kernel
theorem d_R_defects_82 : decode b_R_defects 82 = .ok (.iload_n 3, 1) := by decide +kernel
theorem d_R_defects_83 : decode b_R_defects 83 = .ok (.invokestatic 52, 3) := by decide +kernel
theorem d_R_defects_86 : decode b_R_defects 86 = .ok (.iaload, 1) := by decide +kernel
theorem d_R_defects_87 : decode b_R_defects 87 = .ok (.istore 5, 2) := by decide +kernel
theorem d_R_defects_89 : decode b_R_defects 89 = .ok (.iload_n 2, 1) := by decide +kernel
theorem d_R_defects_90 : decode b_R_defects 90 = .ok (.iload_n 1, 1) := by decide +kernel
theorem d_R_defects_91 : decode b_R_defects 91 = .ok (.ifCond .ne 17, 3) := by decide +kernel
theorem d_R_defects_94 : decode b_R_defects 94 = .ok (.iload 5, 2) := by decide +kernel
theorem d_R_defects_96 : decode b_R_defects 96 = .ok (.ifCond .ne 8, 3) := by decide +kernel
theorem d_R_defects_99 : decode b_R_defects 99 = .ok (.iload 4, 2) := by decide +kernel
theorem d_R_defects_101 : decode b_R_defects 101 = .ok (.goto 41, 3) := by decide +kernel
theorem d_R_defects_104 : decode b_R_defects 104 = .ok (.iconst 0, 1) := by decide +kernel
theorem d_R_defects_105 : decode b_R_defects 105 = .ok (.goto 37, 3) := by decide +kernel
theorem d_R_defects_108 : decode b_R_defects 108 = .ok (.iload_n 1, 1) := by decide +kernel
theorem d_R_defects_109 : decode b_R_defects 109 = .ok (.iconst 1, 1) := by decide +kernel
theorem d_R_defects_110 : decode b_R_defects 110 = .ok (.if_icmp .ne 17, 3) := by decide +kernel
theorem d_R_defects_113 : decode b_R_defects 113 = .ok (.iload 4, 2) := by decide +kernel
theorem d_R_defects_115 : decode b_R_defects 115 = .ok (.iconst 1, 1) := by decide +kernel
theorem d_R_defects_116 : decode b_R_defects 116 = .ok (.if_icmp .le 7, 3) := by decide +kernel
theorem d_R_defects_119 : decode b_R_defects 119 = .ok (.iconst 1, 1) := by decide +kernel
theorem d_R_defects_120 : decode b_R_defects 120 = .ok (.goto 22, 3) := by decide +kernel
theorem d_R_defects_123 : decode b_R_defects 123 = .ok (.iconst 0, 1) := by decide +kernel
theorem d_R_defects_124 : decode b_R_defects 124 = .ok (.goto 18, 3) := by decide +kernel
theorem d_R_defects_127 : decode b_R_defects 127 = .ok (.iload 5, 2) := by decide +kernel
theorem d_R_defects_129 : decode b_R_defects 129 = .ok (.ifCond .eq 12, 3) := by decide +kernel
theorem d_R_defects_132 : decode b_R_defects 132 = .ok (.iload 4, 2) := by decide +kernel
theorem d_R_defects_134 : decode b_R_defects 134 = .ok (.ifCond .ne 7, 3) := by decide +kernel
theorem d_R_defects_137 : decode b_R_defects 137 = .ok (.iconst 1, 1) := by decide +kernel
theorem d_R_defects_138 : decode b_R_defects 138 = .ok (.goto 4, 3) := by decide +kernel
theorem d_R_defects_141 : decode b_R_defects 141 = .ok (.iconst 0, 1) := by decide +kernel
theorem d_R_defects_142 : decode b_R_defects 142 = .ok (.iadd, 1) := by decide +kernel
theorem d_R_defects_143 : decode b_R_defects 143 = .ok (.istore_n 2, 1) := by decide +kernel
theorem d_R_defects_144 : decode b_R_defects 144 = .ok (.iinc 3 1, 3) := by decide +kernel
theorem d_R_defects_147 : decode b_R_defects 147 = .ok (.goto (-100), 3) := by decide +kernel
theorem d_R_defects_150 : decode b_R_defects 150 = .ok (.iload_n 2, 1) := by decide +kernel
theorem d_R_defects_151 : decode b_R_defects 151 = .ok (.ireturn, 1) := by decide +kernel
abbrev b_R_image : ByteArray := prog_4_method_52_code
abbrev y_R_image : MethodName := ⟨"OrderedVolumeModel", "image", "(II)I"⟩
abbrev o_R_image : Cond := .code y_R_image b_R_image 3 (some .int)
abbrev rm_R_image : Room := { frames := 2, cells := 0, slots := 0, locals := 42 }
theorem d_R_image_0 : decode b_R_image 0 = .ok (.aload_n 0, 1) := by decide +kernel
theorem d_R_image_1 : decode b_R_image 1 = .ok (.iload_n 1, 1) := by decide +kernel
theorem d_R_image_2 : decode b_R_image 2 = .ok (.iload_n 2, 1) := by decide +kernel
theorem d_R_image_3 : decode b_R_image 3 = .ok (.invokevirtual 179, 3) := by decide +kernel
theorem d_R_image_6 : decode b_R_image 6 = .ok (.ifCond .eq 17, 3) := by decide +kernel
theorem d_R_image_9 : decode b_R_image 9 = .ok (.aload_n 0, 1) := by decide +kernel
theorem d_R_image_10 : decode b_R_image 10 = .ok (.getfield 13, 3) := by decide +kernel
theorem d_R_image_13 : decode b_R_image 13 = .ok (.bipush 30, 2) := by decide +kernel
theorem d_R_image_15 : decode b_R_image 15 = .ok (.iload_n 1, 1) := by decide +kernel
theorem d_R_image_16 : decode b_R_image 16 = .ok (.imul, 1) := by decide +kernel
theorem d_R_image_17 : decode b_R_image 17 = .ok (.iload_n 2, 1) := by decide +kernel
theorem d_R_image_18 : decode b_R_image 18 = .ok (.iadd, 1) := by decide +kernel
theorem d_R_image_19 : decode b_R_image 19 = .ok (.iaload, 1) := by decide +kernel
theorem d_R_image_20 : decode b_R_image 20 = .ok (.goto 4, 3) := by decide +kernel
theorem d_R_image_23 : decode b_R_image 23 = .ok (.iconst 0, 1) := by decide +kernel
theorem d_R_image_24 : decode b_R_image 24 = .ok (.ireturn, 1) := by decide +kernel
abbrev b_R_leave : ByteArray := prog_4_method_16_code
abbrev y_R_leave : MethodName := ⟨"OrderedVolumeModel", "leave", "(II)V"⟩
abbrev o_R_leave : Cond := .code y_R_leave b_R_leave 5 none
abbrev rm_R_leave : Room := { frames := 5, cells := 0, slots := 0, locals := 112 }
theorem d_R_leave_0 : decode b_R_leave 0 = .ok (.aload_n 0, 1) := by decide +kernel
theorem d_R_leave_1 : decode b_R_leave 1 = .ok (.getfield 7, 3) := by decide +kernel
theorem d_R_leave_4 : decode b_R_leave 4 = .ok (.iload_n 1, 1) := by decide +kernel
theorem d_R_leave_5 : decode b_R_leave 5 = .ok (.iconst 2, 1) := by decide +kernel
theorem d_R_leave_6 : decode b_R_leave 6 = .ok (.invokestatic 44, 3) := by decide +kernel
theorem d_R_leave_9 : decode b_R_leave 9 = .ok (.iaload, 1) := by decide +kernel
theorem d_R_leave_10 : decode b_R_leave 10 = .ok (.istore_n 3, 1) := by decide +kernel
theorem d_R_leave_11 : decode b_R_leave 11 = .ok (.aload_n 0, 1) := by decide +kernel
theorem d_R_leave_12 : decode b_R_leave 12 = .ok (.getfield 7, 3) := by decide +kernel
theorem d_R_leave_15 : decode b_R_leave 15 = .ok (.bipush 30, 2) := by decide +kernel
theorem d_R_leave_17 : decode b_R_leave 17 = .ok (.iload_n 3, 1) := by decide +kernel
theorem d_R_leave_18 : decode b_R_leave 18 = .ok (.imul, 1) := by decide +kernel
theorem d_R_leave_19 : decode b_R_leave 19 = .ok (.iload_n 2, 1) := by decide +kernel
theorem d_R_leave_20 : decode b_R_leave 20 = .ok (.iadd, 1) := by decide +kernel
theorem d_R_leave_21 : decode b_R_leave 21 = .ok (.iaload, 1) := by decide +kernel
theorem d_R_leave_22 : decode b_R_leave 22 = .ok (.bipush 32, 2) := by decide +kernel
theorem d_R_leave_24 : decode b_R_leave 24 = .ok (.irem, 1) := by decide +kernel
theorem d_R_leave_25 : decode b_R_leave 25 = .ok (.istore 4, 2) := by decide +kernel
theorem d_R_leave_27 : decode b_R_leave 27 = .ok (.aload_n 0, 1) := by decide +kernel
theorem d_R_leave_28 : decode b_R_leave 28 = .ok (.getfield 7, 3) := by decide +kernel
theorem d_R_leave_31 : decode b_R_leave 31 = .ok (.bipush 30, 2) := by decide +kernel
theorem d_R_leave_33 : decode b_R_leave 33 = .ok (.iload_n 3, 1) := by decide +kernel
theorem d_R_leave_34 : decode b_R_leave 34 = .ok (.imul, 1) := by decide +kernel
theorem d_R_leave_35 : decode b_R_leave 35 = .ok (.iload_n 2, 1) := by decide +kernel
theorem d_R_leave_36 : decode b_R_leave 36 = .ok (.iadd, 1) := by decide +kernel
theorem d_R_leave_37 : decode b_R_leave 37 = .ok (.iconst 0, 1) := by decide +kernel
theorem d_R_leave_38 : decode b_R_leave 38 = .ok (.iastore, 1) := by decide +kernel
theorem d_R_leave_39 : decode b_R_leave 39 = .ok (.aload_n 0, 1) := by decide +kernel
theorem d_R_leave_40 : decode b_R_leave 40 = .ok (.getfield 20, 3) := by decide +kernel
theorem d_R_leave_43 : decode b_R_leave 43 = .ok (.bipush 8, 2) := by decide +kernel
theorem d_R_leave_45 : decode b_R_leave 45 = .ok (.iload_n 3, 1) := by decide +kernel
theorem d_R_leave_46 : decode b_R_leave 46 = .ok (.imul, 1) := by decide +kernel
theorem d_R_leave_47 : decode b_R_leave 47 = .ok (.iload_n 2, 1) := by decide +kernel
theorem d_R_leave_48 : decode b_R_leave 48 = .ok (.iadd, 1) := by decide +kernel
theorem d_R_leave_49 : decode b_R_leave 49 = .ok (.iconst 0, 1) := by decide +kernel
theorem d_R_leave_50 : decode b_R_leave 50 = .ok (.bastore, 1) := by decide +kernel
theorem d_R_leave_51 : decode b_R_leave 51 = .ok (.aload_n 0, 1) := by decide +kernel
theorem d_R_leave_52 : decode b_R_leave 52 = .ok (.iload_n 3, 1) := by decide +kernel
theorem d_R_leave_53 : decode b_R_leave 53 = .ok (.iload_n 2, 1) := by decide +kernel
theorem d_R_leave_54 : decode b_R_leave 54 = .ok (.invokevirtual 66, 3) := by decide +kernel
theorem d_R_leave_57 : decode b_R_leave 57 = .ok (.ifCond .ne 9, 3) := by decide +kernel
theorem d_R_leave_60 : decode b_R_leave 60 = .ok (.aload_n 0, 1) := by decide +kernel
theorem d_R_leave_61 : decode b_R_leave 61 = .ok (.iload 4, 2) := by decide +kernel
theorem d_R_leave_63 : decode b_R_leave 63 = .ok (.invokevirtual 75, 3) := by decide +kernel
theorem d_R_leave_66 : decode b_R_leave 66 = .ok (.aload_n 0, 1) := by decide +kernel
theorem d_R_leave_67 : decode b_R_leave 67 = .ok (.invokevirtual 79, 3) := by decide +kernel
theorem d_R_leave_70 : decode b_R_leave 70 = .ok (.return_, 1) := by decide +kernel
abbrev b_R_link : ByteArray := prog_4_method_31_code
abbrev y_R_link : MethodName := ⟨"OrderedVolumeModel", "link", "(III)I"⟩
abbrev o_R_link : Cond := .code y_R_link b_R_link 4 (some .int)
abbrev rm_R_link : Room := { frames := 8, cells := 0, slots := 0, locals := 189 }
theorem d_R_link_0 : decode b_R_link 0 = .ok (.iload_n 2, 1) := by decide +kernel
theorem d_R_link_1 : decode b_R_link 1 = .ok (.invokestatic 106, 3) := by decide +kernel
theorem d_R_link_4 : decode b_R_link 4 = .ok (.ifCond .eq 21, 3) := by decide +kernel
theorem d_R_link_7 : decode b_R_link 7 = .ok (.aload_n 0, 1) := by decide +kernel
theorem d_R_link_8 : decode b_R_link 8 = .ok (.iload_n 1, 1) := by decide +kernel
theorem d_R_link_9 : decode b_R_link 9 = .ok (.iconst 2, 1) := by decide +kernel
theorem d_R_link_10 : decode b_R_link 10 = .ok (.invokevirtual 109, 3) := by decide +kernel
theorem d_R_link_13 : decode b_R_link 13 = .ok (.ifCond .eq 12, 3) := by decide +kernel
theorem d_R_link_16 : decode b_R_link 16 = .ok (.aload_n 0, 1) := by decide +kernel
theorem d_R_link_17 : decode b_R_link 17 = .ok (.iload_n 3, 1) := by decide +kernel
theorem d_R_link_18 : decode b_R_link 18 = .ok (.iconst 1, 1) := by decide +kernel
theorem d_R_link_19 : decode b_R_link 19 = .ok (.invokevirtual 109, 3) := by decide +kernel
theorem d_R_link_22 : decode b_R_link 22 = .ok (.ifCond .ne 5, 3) := by decide +kernel
theorem d_R_link_25 : decode b_R_link 25 = .ok (.iconst (-1), 1) := by decide +kernel
theorem d_R_link_26 : decode b_R_link 26 = .ok (.ireturn, 1) := by decide +kernel
theorem d_R_link_27 : decode b_R_link 27 = .ok (.aload_n 0, 1) := by decide +kernel
theorem d_R_link_28 : decode b_R_link 28 = .ok (.iload_n 1, 1) := by decide +kernel
theorem d_R_link_29 : decode b_R_link 29 = .ok (.iload_n 2, 1) := by decide +kernel
theorem d_R_link_30 : decode b_R_link 30 = .ok (.invokevirtual 113, 3) := by decide +kernel
theorem d_R_link_33 : decode b_R_link 33 = .ok (.ifCond .lt 6, 3) := by decide +kernel
theorem d_R_link_36 : decode b_R_link 36 = .ok (.bipush (-2), 2) := by decide +kernel
theorem d_R_link_38 : decode b_R_link 38 = .ok (.ireturn, 1) := by decide +kernel
theorem d_R_link_39 : decode b_R_link 39 = .ok (.aload_n 0, 1) := by decide +kernel
theorem d_R_link_40 : decode b_R_link 40 = .ok (.iload_n 1, 1) := by decide +kernel
theorem d_R_link_41 : decode b_R_link 41 = .ok (.invokevirtual 116, 3) := by decide +kernel
theorem d_R_link_44 : decode b_R_link 44 = .ok (.bipush 8, 2) := by decide +kernel
theorem d_R_link_46 : decode b_R_link 46 = .ok (.if_icmp .ne 6, 3) := by decide +kernel
theorem d_R_link_49 : decode b_R_link 49 = .ok (.bipush (-3), 2) := by decide +kernel
theorem d_R_link_51 : decode b_R_link 51 = .ok (.ireturn, 1) := by decide +kernel
theorem d_R_link_52 : decode b_R_link 52 = .ok (.aload_n 0, 1) := by decide +kernel
theorem d_R_link_53 : decode b_R_link 53 = .ok (.iload_n 1, 1) := by decide +kernel
theorem d_R_link_54 : decode b_R_link 54 = .ok (.invokevirtual 72, 3) := by decide +kernel
theorem d_R_link_57 : decode b_R_link 57 = .ok (.ifCond .ge 8, 3) := by decide +kernel
theorem d_R_link_60 : decode b_R_link 60 = .ok (.aload_n 0, 1) := by decide +kernel
theorem d_R_link_61 : decode b_R_link 61 = .ok (.invokevirtual 123, 3) := by decide +kernel
theorem d_R_link_64 : decode b_R_link 64 = .ok (.pop, 1) := by decide +kernel
theorem d_R_link_65 : decode b_R_link 65 = .ok (.aload_n 0, 1) := by decide +kernel
theorem d_R_link_66 : decode b_R_link 66 = .ok (.iload_n 1, 1) := by decide +kernel
theorem d_R_link_67 : decode b_R_link 67 = .ok (.iload_n 2, 1) := by decide +kernel
theorem d_R_link_68 : decode b_R_link 68 = .ok (.iload_n 3, 1) := by decide +kernel
theorem d_R_link_69 : decode b_R_link 69 = .ok (.invokevirtual 130, 3) := by decide +kernel
theorem d_R_link_72 : decode b_R_link 72 = .ok (.aload_n 0, 1) := by decide +kernel
theorem d_R_link_73 : decode b_R_link 73 = .ok (.getfield 7, 3) := by decide +kernel
theorem d_R_link_76 : decode b_R_link 76 = .ok (.iload_n 3, 1) := by decide +kernel
theorem d_R_link_77 : decode b_R_link 77 = .ok (.iconst 1, 1) := by decide +kernel
theorem d_R_link_78 : decode b_R_link 78 = .ok (.invokestatic 44, 3) := by decide +kernel
theorem d_R_link_81 : decode b_R_link 81 = .ok (.iaload, 1) := by decide +kernel
theorem d_R_link_82 : decode b_R_link 82 = .ok (.ireturn, 1) := by decide +kernel
abbrev b_R_lookup : ByteArray := prog_4_method_37_code
abbrev y_R_lookup : MethodName := ⟨"OrderedVolumeModel", "lookup", "(II)I"⟩
abbrev o_R_lookup : Cond := .code y_R_lookup b_R_lookup 4 (some .int)
abbrev rm_R_lookup : Room := { frames := 5, cells := 0, slots := 0, locals := 118 }
theorem d_R_lookup_0 : decode b_R_lookup 0 = .ok (.iload_n 2, 1) := by decide +kernel
theorem d_R_lookup_1 : decode b_R_lookup 1 = .ok (.invokestatic 106, 3) := by decide +kernel
theorem d_R_lookup_4 : decode b_R_lookup 4 = .ok (.ifCond .eq 12, 3) := by decide +kernel
theorem d_R_lookup_7 : decode b_R_lookup 7 = .ok (.aload_n 0, 1) := by decide +kernel
theorem d_R_lookup_8 : decode b_R_lookup 8 = .ok (.iload_n 1, 1) := by decide +kernel
theorem d_R_lookup_9 : decode b_R_lookup 9 = .ok (.iconst 2, 1) := by decide +kernel
theorem d_R_lookup_10 : decode b_R_lookup 10 = .ok (.invokevirtual 109, 3) := by decide +kernel
theorem d_R_lookup_13 : decode b_R_lookup 13 = .ok (.ifCond .ne 5, 3) := by decide +kernel
theorem d_R_lookup_16 : decode b_R_lookup 16 = .ok (.iconst (-1), 1) := by decide +kernel
theorem d_R_lookup_17 : decode b_R_lookup 17 = .ok (.ireturn, 1) := by decide +kernel
theorem d_R_lookup_18 : decode b_R_lookup 18 = .ok (.aload_n 0, 1) := by decide +kernel
theorem d_R_lookup_19 : decode b_R_lookup 19 = .ok (.iload_n 1, 1) := by decide +kernel
theorem d_R_lookup_20 : decode b_R_lookup 20 = .ok (.iload_n 2, 1) := by decide +kernel
theorem d_R_lookup_21 : decode b_R_lookup 21 = .ok (.invokevirtual 113, 3) := by decide +kernel
theorem d_R_lookup_24 : decode b_R_lookup 24 = .ok (.istore_n 3, 1) := by decide +kernel
theorem d_R_lookup_25 : decode b_R_lookup 25 = .ok (.iload_n 3, 1) := by decide +kernel
theorem d_R_lookup_26 : decode b_R_lookup 26 = .ok (.ifCond .ge 7, 3) := by decide +kernel
theorem d_R_lookup_29 : decode b_R_lookup 29 = .ok (.iconst (-1), 1) := by decide +kernel
theorem d_R_lookup_30 : decode b_R_lookup 30 = .ok (.goto 26, 3) := by decide +kernel
theorem d_R_lookup_33 : decode b_R_lookup 33 = .ok (.aload_n 0, 1) := by decide +kernel
theorem d_R_lookup_34 : decode b_R_lookup 34 = .ok (.getfield 7, 3) := by decide +kernel
theorem d_R_lookup_37 : decode b_R_lookup 37 = .ok (.bipush 30, 2) := by decide +kernel
theorem d_R_lookup_39 : decode b_R_lookup 39 = .ok (.aload_n 0, 1) := by decide +kernel
theorem d_R_lookup_40 : decode b_R_lookup 40 = .ok (.getfield 7, 3) := by decide +kernel
theorem d_R_lookup_43 : decode b_R_lookup 43 = .ok (.iload_n 1, 1) := by decide +kernel
theorem d_R_lookup_44 : decode b_R_lookup 44 = .ok (.iconst 2, 1) := by decide +kernel
theorem d_R_lookup_45 : decode b_R_lookup 45 = .ok (.invokestatic 44, 3) := by decide +kernel
theorem d_R_lookup_48 : decode b_R_lookup 48 = .ok (.iaload, 1) := by decide +kernel
theorem d_R_lookup_49 : decode b_R_lookup 49 = .ok (.imul, 1) := by decide +kernel
theorem d_R_lookup_50 : decode b_R_lookup 50 = .ok (.iload_n 3, 1) := by decide +kernel
theorem d_R_lookup_51 : decode b_R_lookup 51 = .ok (.iadd, 1) := by decide +kernel
theorem d_R_lookup_52 : decode b_R_lookup 52 = .ok (.iaload, 1) := by decide +kernel
theorem d_R_lookup_53 : decode b_R_lookup 53 = .ok (.bipush 32, 2) := by decide +kernel
theorem d_R_lookup_55 : decode b_R_lookup 55 = .ok (.irem, 1) := by decide +kernel
theorem d_R_lookup_56 : decode b_R_lookup 56 = .ok (.ireturn, 1) := by decide +kernel
abbrev b_R_read : ByteArray := prog_4_method_35_code
abbrev y_R_read : MethodName := ⟨"OrderedVolumeModel", "read", "(II)I"⟩
abbrev o_R_read : Cond := .code y_R_read b_R_read 4 (some .int)
abbrev rm_R_read : Room := { frames := 5, cells := 0, slots := 0, locals := 118 }
theorem d_R_read_0 : decode b_R_read 0 = .ok (.iload_n 2, 1) := by decide +kernel
theorem d_R_read_1 : decode b_R_read 1 = .ok (.ifCond .lt 18, 3) := by decide +kernel
theorem d_R_read_4 : decode b_R_read 4 = .ok (.iload_n 2, 1) := by decide +kernel
theorem d_R_read_5 : decode b_R_read 5 = .ok (.bipush 23, 2) := by decide +kernel
theorem d_R_read_7 : decode b_R_read 7 = .ok (.if_icmp .gt 12, 3) := by decide +kernel
theorem d_R_read_10 : decode b_R_read 10 = .ok (.aload_n 0, 1) := by decide +kernel
theorem d_R_read_11 : decode b_R_read 11 = .ok (.iload_n 1, 1) := by decide +kernel
theorem d_R_read_12 : decode b_R_read 12 = .ok (.iconst 1, 1) := by decide +kernel
theorem d_R_read_13 : decode b_R_read 13 = .ok (.invokevirtual 109, 3) := by decide +kernel
theorem d_R_read_16 : decode b_R_read 16 = .ok (.ifCond .ne 5, 3) := by decide +kernel
theorem d_R_read_19 : decode b_R_read 19 = .ok (.iconst 0, 1) := by decide +kernel
theorem d_R_read_20 : decode b_R_read 20 = .ok (.ireturn, 1) := by decide +kernel
theorem d_R_read_21 : decode b_R_read 21 = .ok (.aload_n 0, 1) := by decide +kernel
theorem d_R_read_22 : decode b_R_read 22 = .ok (.getfield 7, 3) := by decide +kernel
theorem d_R_read_25 : decode b_R_read 25 = .ok (.iload_n 1, 1) := by decide +kernel
theorem d_R_read_26 : decode b_R_read 26 = .ok (.iconst 2, 1) := by decide +kernel
theorem d_R_read_27 : decode b_R_read 27 = .ok (.iload_n 2, 1) := by decide +kernel
theorem d_R_read_28 : decode b_R_read 28 = .ok (.bipush 8, 2) := by decide +kernel
theorem d_R_read_30 : decode b_R_read 30 = .ok (.idiv, 1) := by decide +kernel
theorem d_R_read_31 : decode b_R_read 31 = .ok (.iadd, 1) := by decide +kernel
theorem d_R_read_32 : decode b_R_read 32 = .ok (.invokestatic 44, 3) := by decide +kernel
theorem d_R_read_35 : decode b_R_read 35 = .ok (.iaload, 1) := by decide +kernel
theorem d_R_read_36 : decode b_R_read 36 = .ok (.istore_n 3, 1) := by decide +kernel
theorem d_R_read_37 : decode b_R_read 37 = .ok (.iload_n 3, 1) := by decide +kernel
theorem d_R_read_38 : decode b_R_read 38 = .ok (.ifCond .ne 7, 3) := by decide +kernel
theorem d_R_read_41 : decode b_R_read 41 = .ok (.iconst 0, 1) := by decide +kernel
theorem d_R_read_42 : decode b_R_read 42 = .ok (.goto 17, 3) := by decide +kernel
theorem d_R_read_45 : decode b_R_read 45 = .ok (.aload_n 0, 1) := by decide +kernel
theorem d_R_read_46 : decode b_R_read 46 = .ok (.getfield 7, 3) := by decide +kernel
theorem d_R_read_49 : decode b_R_read 49 = .ok (.bipush 30, 2) := by decide +kernel
theorem d_R_read_51 : decode b_R_read 51 = .ok (.iload_n 3, 1) := by decide +kernel
theorem d_R_read_52 : decode b_R_read 52 = .ok (.imul, 1) := by decide +kernel
theorem d_R_read_53 : decode b_R_read 53 = .ok (.iload_n 2, 1) := by decide +kernel
theorem d_R_read_54 : decode b_R_read 54 = .ok (.bipush 8, 2) := by decide +kernel
theorem d_R_read_56 : decode b_R_read 56 = .ok (.irem, 1) := by decide +kernel
theorem d_R_read_57 : decode b_R_read 57 = .ok (.iadd, 1) := by decide +kernel
theorem d_R_read_58 : decode b_R_read 58 = .ok (.iaload, 1) := by decide +kernel
theorem d_R_read_59 : decode b_R_read 59 = .ok (.ireturn, 1) := by decide +kernel
abbrev b_R_reclaim : ByteArray := prog_4_method_49_code
abbrev y_R_reclaim : MethodName := ⟨"OrderedVolumeModel", "reclaim", "()I"⟩
abbrev o_R_reclaim : Cond := .code y_R_reclaim b_R_reclaim 4 (some .int)
abbrev rm_R_reclaim : Room := { frames := 8, cells := 0, slots := 0, locals := 189 }
theorem d_R_reclaim_0 : decode b_R_reclaim 0 = .ok (.aload_n 0, 1) := by decide +kernel
theorem d_R_reclaim_1 : decode b_R_reclaim 1 = .ok (.invokevirtual 123, 3) := by decide +kernel
theorem d_R_reclaim_4 : decode b_R_reclaim 4 = .ok (.pop, 1) := by decide +kernel
theorem d_R_reclaim_5 : decode b_R_reclaim 5 = .ok (.aload_n 0, 1) := by decide +kernel
theorem d_R_reclaim_6 : decode b_R_reclaim 6 = .ok (.iconst 0, 1) := by decide +kernel
theorem d_R_reclaim_7 : decode b_R_reclaim 7 = .ok (.aload_n 0, 1) := by decide +kernel
theorem d_R_reclaim_8 : decode b_R_reclaim 8 = .ok (.getfield 35, 3) := by decide +kernel
theorem d_R_reclaim_11 : decode b_R_reclaim 11 = .ok (.invokevirtual 69, 3) := by decide +kernel
theorem d_R_reclaim_14 : decode b_R_reclaim 14 = .ok (.iconst 0, 1) := by decide +kernel
theorem d_R_reclaim_15 : decode b_R_reclaim 15 = .ok (.istore_n 1, 1) := by decide +kernel
theorem d_R_reclaim_16 : decode b_R_reclaim 16 = .ok (.iconst 0, 1) := by decide +kernel
theorem d_R_reclaim_17 : decode b_R_reclaim 17 = .ok (.istore_n 2, 1) := by decide +kernel
theorem d_R_reclaim_18 : decode b_R_reclaim 18 = .ok (.iload_n 2, 1) := by decide +kernel
theorem d_R_reclaim_19 : decode b_R_reclaim 19 = .ok (.bipush 18, 2) := by decide +kernel
theorem d_R_reclaim_21 : decode b_R_reclaim 21 = .ok (.if_icmp .ge 64, 3) := by decide +kernel
theorem d_R_reclaim_24 : decode b_R_reclaim 24 = .ok (.aload_n 0, 1) := by decide +kernel
theorem d_R_reclaim_25 : decode b_R_reclaim 25 = .ok (.getfield 35, 3) := by decide +kernel
theorem d_R_reclaim_28 : decode b_R_reclaim 28 = .ok (.iload_n 2, 1) := by decide +kernel
theorem d_R_reclaim_29 : decode b_R_reclaim 29 = .ok (.baload, 1) := by decide +kernel
theorem d_R_reclaim_30 : decode b_R_reclaim 30 = .ok (.ifCond .ne 49, 3) := by decide +kernel
theorem d_R_reclaim_33 : decode b_R_reclaim 33 = .ok (.iconst 0, 1) := by decide +kernel
theorem d_R_reclaim_34 : decode b_R_reclaim 34 = .ok (.istore_n 3, 1) := by decide +kernel
theorem d_R_reclaim_35 : decode b_R_reclaim 35 = .ok (.iload_n 3, 1) := by decide +kernel
theorem d_R_reclaim_36 : decode b_R_reclaim 36 = .ok (.iconst 5, 1) := by decide +kernel
theorem d_R_reclaim_37 : decode b_R_reclaim 37 = .ok (.if_icmp .ge 20, 3) := by decide +kernel
theorem d_R_reclaim_40 : decode b_R_reclaim 40 = .ok (.aload_n 0, 1) := by decide +kernel
theorem d_R_reclaim_41 : decode b_R_reclaim 41 = .ok (.getfield 7, 3) := by decide +kernel
theorem d_R_reclaim_44 : decode b_R_reclaim 44 = .ok (.iload_n 2, 1) := by decide +kernel
theorem d_R_reclaim_45 : decode b_R_reclaim 45 = .ok (.iload_n 3, 1) := by decide +kernel
theorem d_R_reclaim_46 : decode b_R_reclaim 46 = .ok (.invokestatic 44, 3) := by decide +kernel
theorem d_R_reclaim_49 : decode b_R_reclaim 49 = .ok (.iconst 0, 1) := by decide +kernel
theorem d_R_reclaim_50 : decode b_R_reclaim 50 = .ok (.iastore, 1) := by decide +kernel
theorem d_R_reclaim_51 : decode b_R_reclaim 51 = .ok (.iinc 3 1, 3) := by decide +kernel
theorem d_R_reclaim_54 : decode b_R_reclaim 54 = .ok (.goto (-19), 3) := by decide +kernel
theorem d_R_reclaim_57 : decode b_R_reclaim 57 = .ok (.iload_n 1, 1) := by decide +kernel
theorem d_R_reclaim_58 : decode b_R_reclaim 58 = .ok (.aload_n 0, 1) := by decide +kernel
theorem d_R_reclaim_59 : decode b_R_reclaim 59 = .ok (.getfield 7, 3) := by decide +kernel
theorem d_R_reclaim_62 : decode b_R_reclaim 62 = .ok (.iload_n 2, 1) := by decide +kernel
theorem d_R_reclaim_63 : decode b_R_reclaim 63 = .ok (.invokestatic 48, 3) := by decide +kernel
theorem d_R_reclaim_66 : decode b_R_reclaim 66 = .ok (.iaload, 1) := by decide +kernel
theorem d_R_reclaim_67 : decode b_R_reclaim 67 = .ok (.iadd, 1) := by decide +kernel
theorem d_R_reclaim_68 : decode b_R_reclaim 68 = .ok (.istore_n 1, 1) := by decide +kernel
theorem d_R_reclaim_69 : decode b_R_reclaim 69 = .ok (.aload_n 0, 1) := by decide +kernel
theorem d_R_reclaim_70 : decode b_R_reclaim 70 = .ok (.getfield 7, 3) := by decide +kernel
theorem d_R_reclaim_73 : decode b_R_reclaim 73 = .ok (.iload_n 2, 1) := by decide +kernel
theorem d_R_reclaim_74 : decode b_R_reclaim 74 = .ok (.invokestatic 48, 3) := by decide +kernel
theorem d_R_reclaim_77 : decode b_R_reclaim 77 = .ok (.iconst 0, 1) := by decide +kernel
theorem d_R_reclaim_78 : decode b_R_reclaim 78 = .ok (.iastore, 1) := by decide +kernel
theorem d_R_reclaim_79 : decode b_R_reclaim 79 = .ok (.iinc 2 1, 3) := by decide +kernel
theorem d_R_reclaim_82 : decode b_R_reclaim 82 = .ok (.goto (-64), 3) := by decide +kernel
theorem d_R_reclaim_85 : decode b_R_reclaim 85 = .ok (.iconst 1, 1) := by decide +kernel
theorem d_R_reclaim_86 : decode b_R_reclaim 86 = .ok (.istore_n 2, 1) := by decide +kernel
theorem d_R_reclaim_87 : decode b_R_reclaim 87 = .ok (.iload_n 2, 1) := by decide +kernel
theorem d_R_reclaim_88 : decode b_R_reclaim 88 = .ok (.bipush 18, 2) := by decide +kernel
theorem d_R_reclaim_90 : decode b_R_reclaim 90 = .ok (.if_icmp .ge 42, 3) := by decide +kernel
theorem d_R_reclaim_93 : decode b_R_reclaim 93 = .ok (.aload_n 0, 1) := by decide +kernel
theorem d_R_reclaim_94 : decode b_R_reclaim 94 = .ok (.getfield 7, 3) := by decide +kernel
theorem d_R_reclaim_97 : decode b_R_reclaim 97 = .ok (.iload_n 2, 1) := by decide +kernel
theorem d_R_reclaim_98 : decode b_R_reclaim 98 = .ok (.iconst 1, 1) := by decide +kernel
theorem d_R_reclaim_99 : decode b_R_reclaim 99 = .ok (.invokestatic 44, 3) := by decide +kernel
theorem d_R_reclaim_102 : decode b_R_reclaim 102 = .ok (.aload_n 0, 1) := by decide +kernel
theorem d_R_reclaim_103 : decode b_R_reclaim 103 = .ok (.getfield 35, 3) := by decide +kernel
theorem d_R_reclaim_106 : decode b_R_reclaim 106 = .ok (.iload_n 2, 1) := by decide +kernel
theorem d_R_reclaim_107 : decode b_R_reclaim 107 = .ok (.baload, 1) := by decide +kernel
theorem d_R_reclaim_108 : decode b_R_reclaim 108 = .ok (.ifCond .eq 16, 3) := by decide +kernel
theorem d_R_reclaim_111 : decode b_R_reclaim 111 = .ok (.aload_n 0, 1) := by decide +kernel
theorem d_R_reclaim_112 : decode b_R_reclaim 112 = .ok (.iconst 0, 1) := by decide +kernel
theorem d_R_reclaim_113 : decode b_R_reclaim 113 = .ok (.aload_n 0, 1) := by decide +kernel
theorem d_R_reclaim_114 : decode b_R_reclaim 114 = .ok (.getfield 35, 3) := by decide +kernel
theorem d_R_reclaim_117 : decode b_R_reclaim 117 = .ok (.iload_n 2, 1) := by decide +kernel
theorem d_R_reclaim_118 : decode b_R_reclaim 118 = .ok (.invokevirtual 169, 3) := by decide +kernel
theorem d_R_reclaim_121 : decode b_R_reclaim 121 = .ok (.goto 4, 3) := by decide +kernel
theorem d_R_reclaim_124 : decode b_R_reclaim 124 = .ok (.iconst 0, 1) := by decide +kernel
theorem d_R_reclaim_125 : decode b_R_reclaim 125 = .ok (.iastore, 1) := by decide +kernel
theorem d_R_reclaim_126 : decode b_R_reclaim 126 = .ok (.iinc 2 1, 3) := by decide +kernel
theorem d_R_reclaim_129 : decode b_R_reclaim 129 = .ok (.goto (-42), 3) := by decide +kernel
theorem d_R_reclaim_132 : decode b_R_reclaim 132 = .ok (.iconst 0, 1) := by decide +kernel
theorem d_R_reclaim_133 : decode b_R_reclaim 133 = .ok (.istore_n 2, 1) := by decide +kernel
theorem d_R_reclaim_134 : decode b_R_reclaim 134 = .ok (.iload_n 2, 1) := by decide +kernel
theorem d_R_reclaim_135 : decode b_R_reclaim 135 = .ok (.bipush 36, 2) := by decide +kernel
theorem d_R_reclaim_137 : decode b_R_reclaim 137 = .ok (.if_icmp .ge 52, 3) := by decide +kernel
theorem d_R_reclaim_140 : decode b_R_reclaim 140 = .ok (.iload_n 2, 1) := by decide +kernel
theorem d_R_reclaim_141 : decode b_R_reclaim 141 = .ok (.bipush 12, 2) := by decide +kernel
theorem d_R_reclaim_143 : decode b_R_reclaim 143 = .ok (.irem, 1) := by decide +kernel
theorem d_R_reclaim_144 : decode b_R_reclaim 144 = .ok (.iconst 1, 1) := by decide +kernel
theorem d_R_reclaim_145 : decode b_R_reclaim 145 = .ok (.if_icmp .le 38, 3) := by decide +kernel
theorem d_R_reclaim_148 : decode b_R_reclaim 148 = .ok (.aload_n 0, 1) := by decide +kernel
theorem d_R_reclaim_149 : decode b_R_reclaim 149 = .ok (.iconst 0, 1) := by decide +kernel
theorem d_R_reclaim_150 : decode b_R_reclaim 150 = .ok (.aload_n 0, 1) := by decide +kernel
theorem d_R_reclaim_151 : decode b_R_reclaim 151 = .ok (.getfield 35, 3) := by decide +kernel
theorem d_R_reclaim_154 : decode b_R_reclaim 154 = .ok (.iload_n 2, 1) := by decide +kernel
theorem d_R_reclaim_155 : decode b_R_reclaim 155 = .ok (.invokevirtual 173, 3) := by decide +kernel
theorem d_R_reclaim_158 : decode b_R_reclaim 158 = .ok (.ifCond .ne 25, 3) := by decide +kernel
theorem d_R_reclaim_161 : decode b_R_reclaim 161 = .ok (.iload_n 1, 1) := by decide +kernel
theorem d_R_reclaim_162 : decode b_R_reclaim 162 = .ok (.aload_n 0, 1) := by decide +kernel
theorem d_R_reclaim_163 : decode b_R_reclaim 163 = .ok (.getfield 7, 3) := by decide +kernel
theorem d_R_reclaim_166 : decode b_R_reclaim 166 = .ok (.iload_n 2, 1) := by decide +kernel
theorem d_R_reclaim_167 : decode b_R_reclaim 167 = .ok (.invokestatic 52, 3) := by decide +kernel
theorem d_R_reclaim_170 : decode b_R_reclaim 170 = .ok (.iaload, 1) := by decide +kernel
theorem d_R_reclaim_171 : decode b_R_reclaim 171 = .ok (.iadd, 1) := by decide +kernel
theorem d_R_reclaim_172 : decode b_R_reclaim 172 = .ok (.istore_n 1, 1) := by decide +kernel
theorem d_R_reclaim_173 : decode b_R_reclaim 173 = .ok (.aload_n 0, 1) := by decide +kernel
theorem d_R_reclaim_174 : decode b_R_reclaim 174 = .ok (.getfield 7, 3) := by decide +kernel
theorem d_R_reclaim_177 : decode b_R_reclaim 177 = .ok (.iload_n 2, 1) := by decide +kernel
theorem d_R_reclaim_178 : decode b_R_reclaim 178 = .ok (.invokestatic 52, 3) := by decide +kernel
theorem d_R_reclaim_181 : decode b_R_reclaim 181 = .ok (.iconst 0, 1) := by decide +kernel
theorem d_R_reclaim_182 : decode b_R_reclaim 182 = .ok (.iastore, 1) := by decide +kernel
theorem d_R_reclaim_183 : decode b_R_reclaim 183 = .ok (.iinc 2 1, 3) := by decide +kernel
theorem d_R_reclaim_186 : decode b_R_reclaim 186 = .ok (.goto (-52), 3) := by decide +kernel
theorem d_R_reclaim_189 : decode b_R_reclaim 189 = .ok (.iconst 0, 1) := by decide +kernel
theorem d_R_reclaim_190 : decode b_R_reclaim 190 = .ok (.istore_n 2, 1) := by decide +kernel
theorem d_R_reclaim_191 : decode b_R_reclaim 191 = .ok (.iload_n 2, 1) := by decide +kernel
theorem d_R_reclaim_192 : decode b_R_reclaim 192 = .ok (.sipush 1080, 3) := by decide +kernel
theorem d_R_reclaim_195 : decode b_R_reclaim 195 = .ok (.if_icmp .ge 41, 3) := by decide +kernel
theorem d_R_reclaim_198 : decode b_R_reclaim 198 = .ok (.aload_n 0, 1) := by decide +kernel
theorem d_R_reclaim_199 : decode b_R_reclaim 199 = .ok (.getfield 13, 3) := by decide +kernel
theorem d_R_reclaim_202 : decode b_R_reclaim 202 = .ok (.iload_n 2, 1) := by decide +kernel
theorem d_R_reclaim_203 : decode b_R_reclaim 203 = .ok (.iload_n 2, 1) := by decide +kernel
theorem d_R_reclaim_204 : decode b_R_reclaim 204 = .ok (.bipush 30, 2) := by decide +kernel
theorem d_R_reclaim_206 : decode b_R_reclaim 206 = .ok (.idiv, 1) := by decide +kernel
theorem d_R_reclaim_207 : decode b_R_reclaim 207 = .ok (.bipush 12, 2) := by decide +kernel
theorem d_R_reclaim_209 : decode b_R_reclaim 209 = .ok (.irem, 1) := by decide +kernel
theorem d_R_reclaim_210 : decode b_R_reclaim 210 = .ok (.iconst 2, 1) := by decide +kernel
theorem d_R_reclaim_211 : decode b_R_reclaim 211 = .ok (.if_icmp .ge 12, 3) := by decide +kernel
theorem d_R_reclaim_214 : decode b_R_reclaim 214 = .ok (.aload_n 0, 1) := by decide +kernel
theorem d_R_reclaim_215 : decode b_R_reclaim 215 = .ok (.getfield 7, 3) := by decide +kernel
theorem d_R_reclaim_218 : decode b_R_reclaim 218 = .ok (.iload_n 2, 1) := by decide +kernel
theorem d_R_reclaim_219 : decode b_R_reclaim 219 = .ok (.iaload, 1) := by decide +kernel
theorem d_R_reclaim_220 : decode b_R_reclaim 220 = .ok (.goto 9, 3) := by decide +kernel
theorem d_R_reclaim_223 : decode b_R_reclaim 223 = .ok (.aload_n 0, 1) := by decide +kernel
theorem d_R_reclaim_224 : decode b_R_reclaim 224 = .ok (.getfield 13, 3) := by decide +kernel
theorem d_R_reclaim_227 : decode b_R_reclaim 227 = .ok (.iload_n 2, 1) := by decide +kernel
theorem d_R_reclaim_228 : decode b_R_reclaim 228 = .ok (.iaload, 1) := by decide +kernel
theorem d_R_reclaim_229 : decode b_R_reclaim 229 = .ok (.iastore, 1) := by decide +kernel
theorem d_R_reclaim_230 : decode b_R_reclaim 230 = .ok (.iinc 2 1, 3) := by decide +kernel
theorem d_R_reclaim_233 : decode b_R_reclaim 233 = .ok (.goto (-42), 3) := by decide +kernel
theorem d_R_reclaim_236 : decode b_R_reclaim 236 = .ok (.iload_n 1, 1) := by decide +kernel
theorem d_R_reclaim_237 : decode b_R_reclaim 237 = .ok (.ireturn, 1) := by decide +kernel
abbrev b_R_remove : ByteArray := prog_4_method_32_code
abbrev y_R_remove : MethodName := ⟨"OrderedVolumeModel", "remove", "(II)I"⟩
abbrev o_R_remove : Cond := .code y_R_remove b_R_remove 5 (some .int)
abbrev rm_R_remove : Room := { frames := 6, cells := 0, slots := 0, locals := 141 }
theorem d_R_remove_0 : decode b_R_remove 0 = .ok (.aload_n 0, 1) := by decide +kernel
theorem d_R_remove_1 : decode b_R_remove 1 = .ok (.iload_n 1, 1) := by decide +kernel
theorem d_R_remove_2 : decode b_R_remove 2 = .ok (.iload_n 2, 1) := by decide +kernel
theorem d_R_remove_3 : decode b_R_remove 3 = .ok (.invokevirtual 134, 3) := by decide +kernel
theorem d_R_remove_6 : decode b_R_remove 6 = .ok (.istore_n 3, 1) := by decide +kernel
theorem d_R_remove_7 : decode b_R_remove 7 = .ok (.iload_n 3, 1) := by decide +kernel
theorem d_R_remove_8 : decode b_R_remove 8 = .ok (.ifCond .ge 5, 3) := by decide +kernel
theorem d_R_remove_11 : decode b_R_remove 11 = .ok (.iconst (-1), 1) := by decide +kernel
theorem d_R_remove_12 : decode b_R_remove 12 = .ok (.ireturn, 1) := by decide +kernel
theorem d_R_remove_13 : decode b_R_remove 13 = .ok (.aload_n 0, 1) := by decide +kernel
theorem d_R_remove_14 : decode b_R_remove 14 = .ok (.getfield 7, 3) := by decide +kernel
theorem d_R_remove_17 : decode b_R_remove 17 = .ok (.iload_n 3, 1) := by decide +kernel
theorem d_R_remove_18 : decode b_R_remove 18 = .ok (.iconst 0, 1) := by decide +kernel
theorem d_R_remove_19 : decode b_R_remove 19 = .ok (.invokestatic 44, 3) := by decide +kernel
theorem d_R_remove_22 : decode b_R_remove 22 = .ok (.iaload, 1) := by decide +kernel
theorem d_R_remove_23 : decode b_R_remove 23 = .ok (.iconst 2, 1) := by decide +kernel
theorem d_R_remove_24 : decode b_R_remove 24 = .ok (.if_icmp .ne 14, 3) := by decide +kernel
theorem d_R_remove_27 : decode b_R_remove 27 = .ok (.aload_n 0, 1) := by decide +kernel
theorem d_R_remove_28 : decode b_R_remove 28 = .ok (.iload_n 3, 1) := by decide +kernel
theorem d_R_remove_29 : decode b_R_remove 29 = .ok (.invokevirtual 116, 3) := by decide +kernel
theorem d_R_remove_32 : decode b_R_remove 32 = .ok (.ifCond .le 6, 3) := by decide +kernel
theorem d_R_remove_35 : decode b_R_remove 35 = .ok (.bipush (-4), 2) := by decide +kernel
theorem d_R_remove_37 : decode b_R_remove 37 = .ok (.ireturn, 1) := by decide +kernel
theorem d_R_remove_38 : decode b_R_remove 38 = .ok (.aload_n 0, 1) := by decide +kernel
theorem d_R_remove_39 : decode b_R_remove 39 = .ok (.iload_n 1, 1) := by decide +kernel
theorem d_R_remove_40 : decode b_R_remove 40 = .ok (.iload_n 2, 1) := by decide +kernel
theorem d_R_remove_41 : decode b_R_remove 41 = .ok (.invokevirtual 113, 3) := by decide +kernel
theorem d_R_remove_44 : decode b_R_remove 44 = .ok (.istore 4, 2) := by decide +kernel
theorem d_R_remove_46 : decode b_R_remove 46 = .ok (.aload_n 0, 1) := by decide +kernel
theorem d_R_remove_47 : decode b_R_remove 47 = .ok (.iload_n 1, 1) := by decide +kernel
theorem d_R_remove_48 : decode b_R_remove 48 = .ok (.iload 4, 2) := by decide +kernel
theorem d_R_remove_50 : decode b_R_remove 50 = .ok (.invokevirtual 137, 3) := by decide +kernel
theorem d_R_remove_53 : decode b_R_remove 53 = .ok (.iload_n 3, 1) := by decide +kernel
theorem d_R_remove_54 : decode b_R_remove 54 = .ok (.ireturn, 1) := by decide +kernel
abbrev b_R_rename : ByteArray := prog_4_method_33_code
abbrev y_R_rename : MethodName := ⟨"OrderedVolumeModel", "rename", "(IIII)I"⟩
abbrev o_R_rename : Cond := .code y_R_rename b_R_rename 8 (some .int)
abbrev rm_R_rename : Room := { frames := 8, cells := 0, slots := 0, locals := 189 }
theorem d_R_rename_0 : decode b_R_rename 0 = .ok (.aload_n 0, 1) := by decide +kernel
theorem d_R_rename_1 : decode b_R_rename 1 = .ok (.iload_n 1, 1) := by decide +kernel
theorem d_R_rename_2 : decode b_R_rename 2 = .ok (.iload_n 2, 1) := by decide +kernel
theorem d_R_rename_3 : decode b_R_rename 3 = .ok (.invokevirtual 134, 3) := by decide +kernel
theorem d_R_rename_6 : decode b_R_rename 6 = .ok (.istore 5, 2) := by decide +kernel
theorem d_R_rename_8 : decode b_R_rename 8 = .ok (.iload 5, 2) := by decide +kernel
theorem d_R_rename_10 : decode b_R_rename 10 = .ok (.ifCond .lt 20, 3) := by decide +kernel
theorem d_R_rename_13 : decode b_R_rename 13 = .ok (.iload 4, 2) := by decide +kernel
theorem d_R_rename_15 : decode b_R_rename 15 = .ok (.invokestatic 106, 3) := by decide +kernel
theorem d_R_rename_18 : decode b_R_rename 18 = .ok (.ifCond .eq 12, 3) := by decide +kernel
theorem d_R_rename_21 : decode b_R_rename 21 = .ok (.aload_n 0, 1) := by decide +kernel
theorem d_R_rename_22 : decode b_R_rename 22 = .ok (.iload_n 3, 1) := by decide +kernel
theorem d_R_rename_23 : decode b_R_rename 23 = .ok (.iconst 2, 1) := by decide +kernel
theorem d_R_rename_24 : decode b_R_rename 24 = .ok (.invokevirtual 109, 3) := by decide +kernel
theorem d_R_rename_27 : decode b_R_rename 27 = .ok (.ifCond .ne 5, 3) := by decide +kernel
theorem d_R_rename_30 : decode b_R_rename 30 = .ok (.iconst (-1), 1) := by decide +kernel
theorem d_R_rename_31 : decode b_R_rename 31 = .ok (.ireturn, 1) := by decide +kernel
theorem d_R_rename_32 : decode b_R_rename 32 = .ok (.aload_n 0, 1) := by decide +kernel
theorem d_R_rename_33 : decode b_R_rename 33 = .ok (.iload_n 3, 1) := by decide +kernel
theorem d_R_rename_34 : decode b_R_rename 34 = .ok (.iload 4, 2) := by decide +kernel
theorem d_R_rename_36 : decode b_R_rename 36 = .ok (.invokevirtual 113, 3) := by decide +kernel
theorem d_R_rename_39 : decode b_R_rename 39 = .ok (.ifCond .lt 6, 3) := by decide +kernel
theorem d_R_rename_42 : decode b_R_rename 42 = .ok (.bipush (-2), 2) := by decide +kernel
theorem d_R_rename_44 : decode b_R_rename 44 = .ok (.ireturn, 1) := by decide +kernel
theorem d_R_rename_45 : decode b_R_rename 45 = .ok (.aload_n 0, 1) := by decide +kernel
theorem d_R_rename_46 : decode b_R_rename 46 = .ok (.getfield 7, 3) := by decide +kernel
theorem d_R_rename_49 : decode b_R_rename 49 = .ok (.iload 5, 2) := by decide +kernel
theorem d_R_rename_51 : decode b_R_rename 51 = .ok (.iconst 0, 1) := by decide +kernel
theorem d_R_rename_52 : decode b_R_rename 52 = .ok (.invokestatic 44, 3) := by decide +kernel
theorem d_R_rename_55 : decode b_R_rename 55 = .ok (.iaload, 1) := by decide +kernel
theorem d_R_rename_56 : decode b_R_rename 56 = .ok (.iconst 2, 1) := by decide +kernel
theorem d_R_rename_57 : decode b_R_rename 57 = .ok (.if_icmp .ne 7, 3) := by decide +kernel
theorem d_R_rename_60 : decode b_R_rename 60 = .ok (.iconst 1, 1) := by decide +kernel
theorem d_R_rename_61 : decode b_R_rename 61 = .ok (.goto 4, 3) := by decide +kernel
theorem d_R_rename_64 : decode b_R_rename 64 = .ok (.iconst 0, 1) := by decide +kernel
theorem d_R_rename_65 : decode b_R_rename 65 = .ok (.istore 6, 2) := by decide +kernel
theorem d_R_rename_67 : decode b_R_rename 67 = .ok (.iconst 0, 1) := by decide +kernel
theorem d_R_rename_68 : decode b_R_rename 68 = .ok (.istore 7, 2) := by decide +kernel
theorem d_R_rename_70 : decode b_R_rename 70 = .ok (.iload 7, 2) := by decide +kernel
theorem d_R_rename_72 : decode b_R_rename 72 = .ok (.bipush 18, 2) := by decide +kernel
theorem d_R_rename_74 : decode b_R_rename 74 = .ok (.if_icmp .ge 28, 3) := by decide +kernel
theorem d_R_rename_77 : decode b_R_rename 77 = .ok (.aload_n 0, 1) := by decide +kernel
theorem d_R_rename_78 : decode b_R_rename 78 = .ok (.getfield 41, 3) := by decide +kernel
theorem d_R_rename_81 : decode b_R_rename 81 = .ok (.iload 7, 2) := by decide +kernel
theorem d_R_rename_83 : decode b_R_rename 83 = .ok (.iload 7, 2) := by decide +kernel
theorem d_R_rename_85 : decode b_R_rename 85 = .ok (.iload 5, 2) := by decide +kernel
theorem d_R_rename_87 : decode b_R_rename 87 = .ok (.if_icmp .ne 7, 3) := by decide +kernel
theorem d_R_rename_90 : decode b_R_rename 90 = .ok (.iconst 1, 1) := by decide +kernel
theorem d_R_rename_91 : decode b_R_rename 91 = .ok (.goto 4, 3) := by decide +kernel
theorem d_R_rename_94 : decode b_R_rename 94 = .ok (.iconst 0, 1) := by decide +kernel
theorem d_R_rename_95 : decode b_R_rename 95 = .ok (.bastore, 1) := by decide +kernel
theorem d_R_rename_96 : decode b_R_rename 96 = .ok (.iinc 7 1, 3) := by decide +kernel
theorem d_R_rename_99 : decode b_R_rename 99 = .ok (.goto (-29), 3) := by decide +kernel
theorem d_R_rename_102 : decode b_R_rename 102 = .ok (.aload_n 0, 1) := by decide +kernel
theorem d_R_rename_103 : decode b_R_rename 103 = .ok (.iconst 0, 1) := by decide +kernel
theorem d_R_rename_104 : decode b_R_rename 104 = .ok (.aload_n 0, 1) := by decide +kernel
theorem d_R_rename_105 : decode b_R_rename 105 = .ok (.getfield 41, 3) := by decide +kernel
theorem d_R_rename_108 : decode b_R_rename 108 = .ok (.invokevirtual 58, 3) := by decide +kernel
theorem d_R_rename_111 : decode b_R_rename 111 = .ok (.iload 6, 2) := by decide +kernel
theorem d_R_rename_113 : decode b_R_rename 113 = .ok (.ifCond .eq 15, 3) := by decide +kernel
theorem d_R_rename_116 : decode b_R_rename 116 = .ok (.aload_n 0, 1) := by decide +kernel
theorem d_R_rename_117 : decode b_R_rename 117 = .ok (.getfield 41, 3) := by decide +kernel
theorem d_R_rename_120 : decode b_R_rename 120 = .ok (.iload_n 3, 1) := by decide +kernel
theorem d_R_rename_121 : decode b_R_rename 121 = .ok (.baload, 1) := by decide +kernel
theorem d_R_rename_122 : decode b_R_rename 122 = .ok (.ifCond .eq 6, 3) := by decide +kernel
theorem d_R_rename_125 : decode b_R_rename 125 = .ok (.bipush (-4), 2) := by decide +kernel
theorem d_R_rename_127 : decode b_R_rename 127 = .ok (.ireturn, 1) := by decide +kernel
theorem d_R_rename_128 : decode b_R_rename 128 = .ok (.aload_n 0, 1) := by decide +kernel
theorem d_R_rename_129 : decode b_R_rename 129 = .ok (.iload_n 3, 1) := by decide +kernel
theorem d_R_rename_130 : decode b_R_rename 130 = .ok (.invokevirtual 116, 3) := by decide +kernel
theorem d_R_rename_133 : decode b_R_rename 133 = .ok (.bipush 8, 2) := by decide +kernel
theorem d_R_rename_135 : decode b_R_rename 135 = .ok (.if_icmp .ne 6, 3) := by decide +kernel
theorem d_R_rename_138 : decode b_R_rename 138 = .ok (.bipush (-3), 2) := by decide +kernel
theorem d_R_rename_140 : decode b_R_rename 140 = .ok (.ireturn, 1) := by decide +kernel
theorem d_R_rename_141 : decode b_R_rename 141 = .ok (.aload_n 0, 1) := by decide +kernel
theorem d_R_rename_142 : decode b_R_rename 142 = .ok (.iload_n 3, 1) := by decide +kernel
theorem d_R_rename_143 : decode b_R_rename 143 = .ok (.invokevirtual 72, 3) := by decide +kernel
theorem d_R_rename_146 : decode b_R_rename 146 = .ok (.ifCond .ge 8, 3) := by decide +kernel
theorem d_R_rename_149 : decode b_R_rename 149 = .ok (.aload_n 0, 1) := by decide +kernel
theorem d_R_rename_150 : decode b_R_rename 150 = .ok (.invokevirtual 123, 3) := by decide +kernel
theorem d_R_rename_153 : decode b_R_rename 153 = .ok (.pop, 1) := by decide +kernel
theorem d_R_rename_154 : decode b_R_rename 154 = .ok (.aload_n 0, 1) := by decide +kernel
theorem d_R_rename_155 : decode b_R_rename 155 = .ok (.iload_n 3, 1) := by decide +kernel
theorem d_R_rename_156 : decode b_R_rename 156 = .ok (.iload 4, 2) := by decide +kernel
theorem d_R_rename_158 : decode b_R_rename 158 = .ok (.iload 5, 2) := by decide +kernel
theorem d_R_rename_160 : decode b_R_rename 160 = .ok (.invokevirtual 130, 3) := by decide +kernel
theorem d_R_rename_163 : decode b_R_rename 163 = .ok (.aload_n 0, 1) := by decide +kernel
theorem d_R_rename_164 : decode b_R_rename 164 = .ok (.iload_n 1, 1) := by decide +kernel
theorem d_R_rename_165 : decode b_R_rename 165 = .ok (.iload_n 2, 1) := by decide +kernel
theorem d_R_rename_166 : decode b_R_rename 166 = .ok (.invokevirtual 113, 3) := by decide +kernel
theorem d_R_rename_169 : decode b_R_rename 169 = .ok (.istore 7, 2) := by decide +kernel
theorem d_R_rename_171 : decode b_R_rename 171 = .ok (.aload_n 0, 1) := by decide +kernel
theorem d_R_rename_172 : decode b_R_rename 172 = .ok (.iload_n 1, 1) := by decide +kernel
theorem d_R_rename_173 : decode b_R_rename 173 = .ok (.iload 7, 2) := by decide +kernel
theorem d_R_rename_175 : decode b_R_rename 175 = .ok (.invokevirtual 137, 3) := by decide +kernel
theorem d_R_rename_178 : decode b_R_rename 178 = .ok (.aload_n 0, 1) := by decide +kernel
theorem d_R_rename_179 : decode b_R_rename 179 = .ok (.aload_n 0, 1) := by decide +kernel
theorem d_R_rename_180 : decode b_R_rename 180 = .ok (.getfield 141, 3) := by decide +kernel
theorem d_R_rename_183 : decode b_R_rename 183 = .ok (.ifCond .ne 8, 3) := by decide +kernel
theorem d_R_rename_186 : decode b_R_rename 186 = .ok (.iload 6, 2) := by decide +kernel
theorem d_R_rename_188 : decode b_R_rename 188 = .ok (.ifCond .eq 7, 3) := by decide +kernel
theorem d_R_rename_191 : decode b_R_rename 191 = .ok (.iconst 1, 1) := by decide +kernel
theorem d_R_rename_192 : decode b_R_rename 192 = .ok (.goto 4, 3) := by decide +kernel
theorem d_R_rename_195 : decode b_R_rename 195 = .ok (.iconst 0, 1) := by decide +kernel
theorem d_R_rename_196 : decode b_R_rename 196 = .ok (.putfield 141, 3) := by decide +kernel
theorem d_R_rename_199 : decode b_R_rename 199 = .ok (.iload 5, 2) := by decide +kernel
theorem d_R_rename_201 : decode b_R_rename 201 = .ok (.ireturn, 1) := by decide +kernel
abbrev b_R_write : ByteArray := prog_4_method_34_code
abbrev y_R_write : MethodName := ⟨"OrderedVolumeModel", "write", "(III)I"⟩
abbrev o_R_write : Cond := .code y_R_write b_R_write 6 (some .int)
abbrev rm_R_write : Room := { frames := 8, cells := 0, slots := 0, locals := 189 }
theorem d_R_write_0 : decode b_R_write 0 = .ok (.iload_n 2, 1) := by decide +kernel
theorem d_R_write_1 : decode b_R_write 1 = .ok (.ifCond .lt 18, 3) := by decide +kernel
theorem d_R_write_4 : decode b_R_write 4 = .ok (.iload_n 2, 1) := by decide +kernel
theorem d_R_write_5 : decode b_R_write 5 = .ok (.bipush 23, 2) := by decide +kernel
theorem d_R_write_7 : decode b_R_write 7 = .ok (.if_icmp .gt 12, 3) := by decide +kernel
theorem d_R_write_10 : decode b_R_write 10 = .ok (.aload_n 0, 1) := by decide +kernel
theorem d_R_write_11 : decode b_R_write 11 = .ok (.iload_n 1, 1) := by decide +kernel
theorem d_R_write_12 : decode b_R_write 12 = .ok (.iconst 1, 1) := by decide +kernel
theorem d_R_write_13 : decode b_R_write 13 = .ok (.invokevirtual 109, 3) := by decide +kernel
theorem d_R_write_16 : decode b_R_write 16 = .ok (.ifCond .ne 5, 3) := by decide +kernel
theorem d_R_write_19 : decode b_R_write 19 = .ok (.iconst (-1), 1) := by decide +kernel
theorem d_R_write_20 : decode b_R_write 20 = .ok (.ireturn, 1) := by decide +kernel
theorem d_R_write_21 : decode b_R_write 21 = .ok (.iload_n 2, 1) := by decide +kernel
theorem d_R_write_22 : decode b_R_write 22 = .ok (.bipush 8, 2) := by decide +kernel
theorem d_R_write_24 : decode b_R_write 24 = .ok (.idiv, 1) := by decide +kernel
theorem d_R_write_25 : decode b_R_write 25 = .ok (.istore 4, 2) := by decide +kernel
theorem d_R_write_27 : decode b_R_write 27 = .ok (.aload_n 0, 1) := by decide +kernel
theorem d_R_write_28 : decode b_R_write 28 = .ok (.getfield 7, 3) := by decide +kernel
theorem d_R_write_31 : decode b_R_write 31 = .ok (.iload_n 1, 1) := by decide +kernel
theorem d_R_write_32 : decode b_R_write 32 = .ok (.iconst 2, 1) := by decide +kernel
theorem d_R_write_33 : decode b_R_write 33 = .ok (.iload 4, 2) := by decide +kernel
theorem d_R_write_35 : decode b_R_write 35 = .ok (.iadd, 1) := by decide +kernel
theorem d_R_write_36 : decode b_R_write 36 = .ok (.invokestatic 44, 3) := by decide +kernel
theorem d_R_write_39 : decode b_R_write 39 = .ok (.iaload, 1) := by decide +kernel
theorem d_R_write_40 : decode b_R_write 40 = .ok (.ifCond .ne 56, 3) := by decide +kernel
theorem d_R_write_43 : decode b_R_write 43 = .ok (.aload_n 0, 1) := by decide +kernel
theorem d_R_write_44 : decode b_R_write 44 = .ok (.iload_n 1, 1) := by decide +kernel
theorem d_R_write_45 : decode b_R_write 45 = .ok (.iload 4, 2) := by decide +kernel
theorem d_R_write_47 : decode b_R_write 47 = .ok (.invokevirtual 145, 3) := by decide +kernel
theorem d_R_write_50 : decode b_R_write 50 = .ok (.ifCond .ge 8, 3) := by decide +kernel
theorem d_R_write_53 : decode b_R_write 53 = .ok (.aload_n 0, 1) := by decide +kernel
theorem d_R_write_54 : decode b_R_write 54 = .ok (.invokevirtual 123, 3) := by decide +kernel
theorem d_R_write_57 : decode b_R_write 57 = .ok (.pop, 1) := by decide +kernel
theorem d_R_write_58 : decode b_R_write 58 = .ok (.aload_n 0, 1) := by decide +kernel
theorem d_R_write_59 : decode b_R_write 59 = .ok (.iload_n 1, 1) := by decide +kernel
theorem d_R_write_60 : decode b_R_write 60 = .ok (.iload 4, 2) := by decide +kernel
theorem d_R_write_62 : decode b_R_write 62 = .ok (.invokevirtual 145, 3) := by decide +kernel
theorem d_R_write_65 : decode b_R_write 65 = .ok (.istore 5, 2) := by decide +kernel
theorem d_R_write_67 : decode b_R_write 67 = .ok (.iload 5, 2) := by decide +kernel
theorem d_R_write_69 : decode b_R_write 69 = .ok (.ifCond .ge 6, 3) := by decide +kernel
theorem d_R_write_72 : decode b_R_write 72 = .ok (.bipush (-3), 2) := by decide +kernel
theorem d_R_write_74 : decode b_R_write 74 = .ok (.ireturn, 1) := by decide +kernel
theorem d_R_write_75 : decode b_R_write 75 = .ok (.aload_n 0, 1) := by decide +kernel
theorem d_R_write_76 : decode b_R_write 76 = .ok (.iload 5, 2) := by decide +kernel
theorem d_R_write_78 : decode b_R_write 78 = .ok (.invokevirtual 127, 3) := by decide +kernel
theorem d_R_write_81 : decode b_R_write 81 = .ok (.aload_n 0, 1) := by decide +kernel
theorem d_R_write_82 : decode b_R_write 82 = .ok (.getfield 7, 3) := by decide +kernel
theorem d_R_write_85 : decode b_R_write 85 = .ok (.iload_n 1, 1) := by decide +kernel
theorem d_R_write_86 : decode b_R_write 86 = .ok (.iconst 2, 1) := by decide +kernel
theorem d_R_write_87 : decode b_R_write 87 = .ok (.iload 4, 2) := by decide +kernel
theorem d_R_write_89 : decode b_R_write 89 = .ok (.iadd, 1) := by decide +kernel
theorem d_R_write_90 : decode b_R_write 90 = .ok (.invokestatic 44, 3) := by decide +kernel
theorem d_R_write_93 : decode b_R_write 93 = .ok (.iload 5, 2) := by decide +kernel
theorem d_R_write_95 : decode b_R_write 95 = .ok (.iastore, 1) := by decide +kernel
theorem d_R_write_96 : decode b_R_write 96 = .ok (.aload_n 0, 1) := by decide +kernel
theorem d_R_write_97 : decode b_R_write 97 = .ok (.getfield 7, 3) := by decide +kernel
theorem d_R_write_100 : decode b_R_write 100 = .ok (.iload_n 1, 1) := by decide +kernel
theorem d_R_write_101 : decode b_R_write 101 = .ok (.iconst 2, 1) := by decide +kernel
theorem d_R_write_102 : decode b_R_write 102 = .ok (.iload 4, 2) := by decide +kernel
theorem d_R_write_104 : decode b_R_write 104 = .ok (.iadd, 1) := by decide +kernel
theorem d_R_write_105 : decode b_R_write 105 = .ok (.invokestatic 44, 3) := by decide +kernel
theorem d_R_write_108 : decode b_R_write 108 = .ok (.iaload, 1) := by decide +kernel
theorem d_R_write_109 : decode b_R_write 109 = .ok (.istore 5, 2) := by decide +kernel
theorem d_R_write_111 : decode b_R_write 111 = .ok (.aload_n 0, 1) := by decide +kernel
theorem d_R_write_112 : decode b_R_write 112 = .ok (.getfield 7, 3) := by decide +kernel
theorem d_R_write_115 : decode b_R_write 115 = .ok (.bipush 30, 2) := by decide +kernel
theorem d_R_write_117 : decode b_R_write 117 = .ok (.iload 5, 2) := by decide +kernel
theorem d_R_write_119 : decode b_R_write 119 = .ok (.imul, 1) := by decide +kernel
theorem d_R_write_120 : decode b_R_write 120 = .ok (.iload_n 2, 1) := by decide +kernel
theorem d_R_write_121 : decode b_R_write 121 = .ok (.bipush 8, 2) := by decide +kernel
theorem d_R_write_123 : decode b_R_write 123 = .ok (.irem, 1) := by decide +kernel
theorem d_R_write_124 : decode b_R_write 124 = .ok (.iadd, 1) := by decide +kernel
theorem d_R_write_125 : decode b_R_write 125 = .ok (.iload_n 3, 1) := by decide +kernel
theorem d_R_write_126 : decode b_R_write 126 = .ok (.iastore, 1) := by decide +kernel
theorem d_R_write_127 : decode b_R_write 127 = .ok (.iload 5, 2) := by decide +kernel
theorem d_R_write_129 : decode b_R_write 129 = .ok (.ireturn, 1) := by decide +kernel
