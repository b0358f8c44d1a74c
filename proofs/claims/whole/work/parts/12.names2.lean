abbrev b_V_isWord : ByteArray := prog_1_method_18_code
abbrev y_V_isWord : MethodName := ⟨"OrderedVolume", "isWord", "(I)Z"⟩
abbrev o_V_isWord : Cond := .code y_V_isWord b_V_isWord 1 (some .boolean)
abbrev rm_V_isWord : Room := { frames := 0, cells := 0, slots := 0, locals := 0 }
theorem d_V_isWord_0 : decode b_V_isWord 0 = .ok (.iload_n 0, 1) := by decide +kernel
theorem d_V_isWord_1 : decode b_V_isWord 1 = .ok (.ifCond .lt 13, 3) := by decide +kernel
theorem d_V_isWord_4 : decode b_V_isWord 4 = .ok (.iload_n 0, 1) := by decide +kernel
theorem d_V_isWord_5 : decode b_V_isWord 5 = .ok (.bipush 24, 2) := by decide +kernel
theorem d_V_isWord_7 : decode b_V_isWord 7 = .ok (.if_icmp .ge 7, 3) := by decide +kernel
theorem d_V_isWord_10 : decode b_V_isWord 10 = .ok (.iconst 1, 1) := by decide +kernel
theorem d_V_isWord_11 : decode b_V_isWord 11 = .ok (.goto 4, 3) := by decide +kernel
theorem d_V_isWord_14 : decode b_V_isWord 14 = .ok (.iconst 0, 1) := by decide +kernel
theorem d_V_isWord_15 : decode b_V_isWord 15 = .ok (.ireturn, 1) := by decide +kernel
abbrev b_V_link : ByteArray := prog_1_method_3_code
abbrev y_V_link : MethodName := ⟨"OrderedVolume", "link", "(III)I"⟩
abbrev o_V_link : Cond := .code y_V_link b_V_link 6 (some .int)
abbrev rm_V_link : Room := { frames := 6, cells := 0, slots := 0, locals := 147 }
theorem d_V_link_0 : decode b_V_link 0 = .ok (.aload_n 0, 1) := by decide +kernel
theorem d_V_link_1 : decode b_V_link 1 = .ok (.iload_n 1, 1) := by decide +kernel
theorem d_V_link_2 : decode b_V_link 2 = .ok (.invokevirtual 33, 3) := by decide +kernel
theorem d_V_link_5 : decode b_V_link 5 = .ok (.ifCond .eq 18, 3) := by decide +kernel
theorem d_V_link_8 : decode b_V_link 8 = .ok (.iload_n 2, 1) := by decide +kernel
theorem d_V_link_9 : decode b_V_link 9 = .ok (.invokestatic 37, 3) := by decide +kernel
theorem d_V_link_12 : decode b_V_link 12 = .ok (.ifCond .eq 11, 3) := by decide +kernel
theorem d_V_link_15 : decode b_V_link 15 = .ok (.aload_n 0, 1) := by decide +kernel
theorem d_V_link_16 : decode b_V_link 16 = .ok (.iload_n 3, 1) := by decide +kernel
theorem d_V_link_17 : decode b_V_link 17 = .ok (.invokevirtual 83, 3) := by decide +kernel
theorem d_V_link_20 : decode b_V_link 20 = .ok (.ifCond .ne 5, 3) := by decide +kernel
theorem d_V_link_23 : decode b_V_link 23 = .ok (.iconst (-1), 1) := by decide +kernel
theorem d_V_link_24 : decode b_V_link 24 = .ok (.ireturn, 1) := by decide +kernel
theorem d_V_link_25 : decode b_V_link 25 = .ok (.aload_n 0, 1) := by decide +kernel
theorem d_V_link_26 : decode b_V_link 26 = .ok (.iload_n 1, 1) := by decide +kernel
theorem d_V_link_27 : decode b_V_link 27 = .ok (.iload_n 2, 1) := by decide +kernel
theorem d_V_link_28 : decode b_V_link 28 = .ok (.invokevirtual 40, 3) := by decide +kernel
theorem d_V_link_31 : decode b_V_link 31 = .ok (.istore 4, 2) := by decide +kernel
theorem d_V_link_33 : decode b_V_link 33 = .ok (.iload 4, 2) := by decide +kernel
theorem d_V_link_35 : decode b_V_link 35 = .ok (.ifCond .eq 6, 3) := by decide +kernel
theorem d_V_link_38 : decode b_V_link 38 = .ok (.iload 4, 2) := by decide +kernel
theorem d_V_link_40 : decode b_V_link 40 = .ok (.ireturn, 1) := by decide +kernel
theorem d_V_link_41 : decode b_V_link 41 = .ok (.aload_n 0, 1) := by decide +kernel
theorem d_V_link_42 : decode b_V_link 42 = .ok (.iload_n 1, 1) := by decide +kernel
theorem d_V_link_43 : decode b_V_link 43 = .ok (.invokevirtual 77, 3) := by decide +kernel
theorem d_V_link_46 : decode b_V_link 46 = .ok (.iconst (-1), 1) := by decide +kernel
theorem d_V_link_47 : decode b_V_link 47 = .ok (.if_icmp .ne 8, 3) := by decide +kernel
theorem d_V_link_50 : decode b_V_link 50 = .ok (.aload_n 0, 1) := by decide +kernel
theorem d_V_link_51 : decode b_V_link 51 = .ok (.invokevirtual 48, 3) := by decide +kernel
theorem d_V_link_54 : decode b_V_link 54 = .ok (.pop, 1) := by decide +kernel
theorem d_V_link_55 : decode b_V_link 55 = .ok (.aload_n 0, 1) := by decide +kernel
theorem d_V_link_56 : decode b_V_link 56 = .ok (.iload_n 1, 1) := by decide +kernel
theorem d_V_link_57 : decode b_V_link 57 = .ok (.invokevirtual 77, 3) := by decide +kernel
theorem d_V_link_60 : decode b_V_link 60 = .ok (.istore 5, 2) := by decide +kernel
theorem d_V_link_62 : decode b_V_link 62 = .ok (.iload 5, 2) := by decide +kernel
theorem d_V_link_64 : decode b_V_link 64 = .ok (.iconst (-1), 1) := by decide +kernel
theorem d_V_link_65 : decode b_V_link 65 = .ok (.if_icmp .ne 6, 3) := by decide +kernel
theorem d_V_link_68 : decode b_V_link 68 = .ok (.bipush (-3), 2) := by decide +kernel
theorem d_V_link_70 : decode b_V_link 70 = .ok (.ireturn, 1) := by decide +kernel
theorem d_V_link_71 : decode b_V_link 71 = .ok (.aload_n 0, 1) := by decide +kernel
theorem d_V_link_72 : decode b_V_link 72 = .ok (.iload_n 1, 1) := by decide +kernel
theorem d_V_link_73 : decode b_V_link 73 = .ok (.iload 5, 2) := by decide +kernel
theorem d_V_link_75 : decode b_V_link 75 = .ok (.bipush 32, 2) := by decide +kernel
theorem d_V_link_77 : decode b_V_link 77 = .ok (.iload_n 2, 1) := by decide +kernel
theorem d_V_link_78 : decode b_V_link 78 = .ok (.imul, 1) := by decide +kernel
theorem d_V_link_79 : decode b_V_link 79 = .ok (.iload_n 3, 1) := by decide +kernel
theorem d_V_link_80 : decode b_V_link 80 = .ok (.iadd, 1) := by decide +kernel
theorem d_V_link_81 : decode b_V_link 81 = .ok (.invokevirtual 80, 3) := by decide +kernel
theorem d_V_link_84 : decode b_V_link 84 = .ok (.aload_n 0, 1) := by decide +kernel
theorem d_V_link_85 : decode b_V_link 85 = .ok (.getfield 10, 3) := by decide +kernel
theorem d_V_link_88 : decode b_V_link 88 = .ok (.iload_n 3, 1) := by decide +kernel
theorem d_V_link_89 : decode b_V_link 89 = .ok (.invokevirtual 86, 3) := by decide +kernel
theorem d_V_link_92 : decode b_V_link 92 = .ok (.ireturn, 1) := by decide +kernel
abbrev b_V_lookup : ByteArray := prog_1_method_9_code
abbrev y_V_lookup : MethodName := ⟨"OrderedVolume", "lookup", "(II)I"⟩
abbrev o_V_lookup : Cond := .code y_V_lookup b_V_lookup 4 (some .int)
abbrev rm_V_lookup : Room := { frames := 4, cells := 0, slots := 0, locals := 92 }
theorem d_V_lookup_0 : decode b_V_lookup 0 = .ok (.aload_n 0, 1) := by decide +kernel
theorem d_V_lookup_1 : decode b_V_lookup 1 = .ok (.iload_n 1, 1) := by decide +kernel
theorem d_V_lookup_2 : decode b_V_lookup 2 = .ok (.invokevirtual 33, 3) := by decide +kernel
theorem d_V_lookup_5 : decode b_V_lookup 5 = .ok (.ifCond .ne 5, 3) := by decide +kernel
theorem d_V_lookup_8 : decode b_V_lookup 8 = .ok (.iconst (-1), 1) := by decide +kernel
theorem d_V_lookup_9 : decode b_V_lookup 9 = .ok (.ireturn, 1) := by decide +kernel
theorem d_V_lookup_10 : decode b_V_lookup 10 = .ok (.aload_n 0, 1) := by decide +kernel
theorem d_V_lookup_11 : decode b_V_lookup 11 = .ok (.getfield 10, 3) := by decide +kernel
theorem d_V_lookup_14 : decode b_V_lookup 14 = .ok (.iload_n 1, 1) := by decide +kernel
theorem d_V_lookup_15 : decode b_V_lookup 15 = .ok (.iload_n 2, 1) := by decide +kernel
theorem d_V_lookup_16 : decode b_V_lookup 16 = .ok (.invokevirtual 89, 3) := by decide +kernel
theorem d_V_lookup_19 : decode b_V_lookup 19 = .ok (.istore_n 3, 1) := by decide +kernel
theorem d_V_lookup_20 : decode b_V_lookup 20 = .ok (.iload_n 3, 1) := by decide +kernel
theorem d_V_lookup_21 : decode b_V_lookup 21 = .ok (.iconst (-1), 1) := by decide +kernel
theorem d_V_lookup_22 : decode b_V_lookup 22 = .ok (.if_icmp .ne 7, 3) := by decide +kernel
theorem d_V_lookup_25 : decode b_V_lookup 25 = .ok (.iconst (-1), 1) := by decide +kernel
theorem d_V_lookup_26 : decode b_V_lookup 26 = .ok (.goto 15, 3) := by decide +kernel
theorem d_V_lookup_29 : decode b_V_lookup 29 = .ok (.aload_n 0, 1) := by decide +kernel
theorem d_V_lookup_30 : decode b_V_lookup 30 = .ok (.getfield 10, 3) := by decide +kernel
theorem d_V_lookup_33 : decode b_V_lookup 33 = .ok (.iload_n 1, 1) := by decide +kernel
theorem d_V_lookup_34 : decode b_V_lookup 34 = .ok (.iload_n 3, 1) := by decide +kernel
theorem d_V_lookup_35 : decode b_V_lookup 35 = .ok (.invokevirtual 92, 3) := by decide +kernel
theorem d_V_lookup_38 : decode b_V_lookup 38 = .ok (.bipush 32, 2) := by decide +kernel
theorem d_V_lookup_40 : decode b_V_lookup 40 = .ok (.irem, 1) := by decide +kernel
theorem d_V_lookup_41 : decode b_V_lookup 41 = .ok (.ireturn, 1) := by decide +kernel
abbrev b_V_read : ByteArray := prog_1_method_7_code
abbrev y_V_read : MethodName := ⟨"OrderedVolume", "read", "(II)I"⟩
abbrev o_V_read : Cond := .code y_V_read b_V_read 4 (some .int)
abbrev rm_V_read : Room := { frames := 4, cells := 0, slots := 0, locals := 92 }
theorem d_V_read_0 : decode b_V_read 0 = .ok (.aload_n 0, 1) := by decide +kernel
theorem d_V_read_1 : decode b_V_read 1 = .ok (.iload_n 1, 1) := by decide +kernel
theorem d_V_read_2 : decode b_V_read 2 = .ok (.invokevirtual 83, 3) := by decide +kernel
theorem d_V_read_5 : decode b_V_read 5 = .ok (.ifCond .eq 10, 3) := by decide +kernel
theorem d_V_read_8 : decode b_V_read 8 = .ok (.iload_n 2, 1) := by decide +kernel
theorem d_V_read_9 : decode b_V_read 9 = .ok (.invokestatic 111, 3) := by decide +kernel
theorem d_V_read_12 : decode b_V_read 12 = .ok (.ifCond .ne 5, 3) := by decide +kernel
theorem d_V_read_15 : decode b_V_read 15 = .ok (.iconst 0, 1) := by decide +kernel
theorem d_V_read_16 : decode b_V_read 16 = .ok (.ireturn, 1) := by decide +kernel
theorem d_V_read_17 : decode b_V_read 17 = .ok (.aload_n 0, 1) := by decide +kernel
theorem d_V_read_18 : decode b_V_read 18 = .ok (.getfield 10, 3) := by decide +kernel
theorem d_V_read_21 : decode b_V_read 21 = .ok (.iload_n 1, 1) := by decide +kernel
theorem d_V_read_22 : decode b_V_read 22 = .ok (.iload_n 2, 1) := by decide +kernel
theorem d_V_read_23 : decode b_V_read 23 = .ok (.bipush 8, 2) := by decide +kernel
theorem d_V_read_25 : decode b_V_read 25 = .ok (.idiv, 1) := by decide +kernel
theorem d_V_read_26 : decode b_V_read 26 = .ok (.invokevirtual 114, 3) := by decide +kernel
theorem d_V_read_29 : decode b_V_read 29 = .ok (.istore_n 3, 1) := by decide +kernel
theorem d_V_read_30 : decode b_V_read 30 = .ok (.iload_n 3, 1) := by decide +kernel
theorem d_V_read_31 : decode b_V_read 31 = .ok (.ifCond .ne 7, 3) := by decide +kernel
theorem d_V_read_34 : decode b_V_read 34 = .ok (.iconst 0, 1) := by decide +kernel
theorem d_V_read_35 : decode b_V_read 35 = .ok (.goto 15, 3) := by decide +kernel
theorem d_V_read_38 : decode b_V_read 38 = .ok (.aload_n 0, 1) := by decide +kernel
theorem d_V_read_39 : decode b_V_read 39 = .ok (.getfield 10, 3) := by decide +kernel
theorem d_V_read_42 : decode b_V_read 42 = .ok (.iload_n 3, 1) := by decide +kernel
theorem d_V_read_43 : decode b_V_read 43 = .ok (.iload_n 2, 1) := by decide +kernel
theorem d_V_read_44 : decode b_V_read 44 = .ok (.bipush 8, 2) := by decide +kernel
theorem d_V_read_46 : decode b_V_read 46 = .ok (.irem, 1) := by decide +kernel
theorem d_V_read_47 : decode b_V_read 47 = .ok (.invokevirtual 123, 3) := by decide +kernel
theorem d_V_read_50 : decode b_V_read 50 = .ok (.ireturn, 1) := by decide +kernel
abbrev b_V_reclaim : ByteArray := prog_1_method_13_code
abbrev y_V_reclaim : MethodName := ⟨"OrderedVolume", "reclaim", "()I"⟩
abbrev o_V_reclaim : Cond := .code y_V_reclaim b_V_reclaim 4 (some .int)
abbrev rm_V_reclaim : Room := { frames := 6, cells := 0, slots := 0, locals := 147 }
theorem d_V_reclaim_0 : decode b_V_reclaim 0 = .ok (.aload_n 0, 1) := by decide +kernel
theorem d_V_reclaim_1 : decode b_V_reclaim 1 = .ok (.invokevirtual 48, 3) := by decide +kernel
theorem d_V_reclaim_4 : decode b_V_reclaim 4 = .ok (.pop, 1) := by decide +kernel
theorem d_V_reclaim_5 : decode b_V_reclaim 5 = .ok (.aload_n 0, 1) := by decide +kernel
theorem d_V_reclaim_6 : decode b_V_reclaim 6 = .ok (.getfield 10, 3) := by decide +kernel
theorem d_V_reclaim_9 : decode b_V_reclaim 9 = .ok (.iconst 0, 1) := by decide +kernel
theorem d_V_reclaim_10 : decode b_V_reclaim 10 = .ok (.invokevirtual 104, 3) := by decide +kernel
theorem d_V_reclaim_13 : decode b_V_reclaim 13 = .ok (.istore_n 1, 1) := by decide +kernel
theorem d_V_reclaim_14 : decode b_V_reclaim 14 = .ok (.iconst 0, 1) := by decide +kernel
theorem d_V_reclaim_15 : decode b_V_reclaim 15 = .ok (.istore_n 2, 1) := by decide +kernel
theorem d_V_reclaim_16 : decode b_V_reclaim 16 = .ok (.iconst 0, 1) := by decide +kernel
theorem d_V_reclaim_17 : decode b_V_reclaim 17 = .ok (.istore_n 3, 1) := by decide +kernel
theorem d_V_reclaim_18 : decode b_V_reclaim 18 = .ok (.iload_n 3, 1) := by decide +kernel
theorem d_V_reclaim_19 : decode b_V_reclaim 19 = .ok (.bipush 18, 2) := by decide +kernel
theorem d_V_reclaim_21 : decode b_V_reclaim 21 = .ok (.if_icmp .ge 60, 3) := by decide +kernel
theorem d_V_reclaim_24 : decode b_V_reclaim 24 = .ok (.iload_n 1, 1) := by decide +kernel
theorem d_V_reclaim_25 : decode b_V_reclaim 25 = .ok (.iload_n 3, 1) := by decide +kernel
theorem d_V_reclaim_26 : decode b_V_reclaim 26 = .ok (.invokestatic 107, 3) := by decide +kernel
theorem d_V_reclaim_29 : decode b_V_reclaim 29 = .ok (.ifCond .ne 25, 3) := by decide +kernel
theorem d_V_reclaim_32 : decode b_V_reclaim 32 = .ok (.iload_n 2, 1) := by decide +kernel
theorem d_V_reclaim_33 : decode b_V_reclaim 33 = .ok (.aload_n 0, 1) := by decide +kernel
theorem d_V_reclaim_34 : decode b_V_reclaim 34 = .ok (.getfield 10, 3) := by decide +kernel
theorem d_V_reclaim_37 : decode b_V_reclaim 37 = .ok (.iload_n 3, 1) := by decide +kernel
theorem d_V_reclaim_38 : decode b_V_reclaim 38 = .ok (.invokevirtual 143, 3) := by decide +kernel
theorem d_V_reclaim_41 : decode b_V_reclaim 41 = .ok (.iadd, 1) := by decide +kernel
theorem d_V_reclaim_42 : decode b_V_reclaim 42 = .ok (.istore_n 2, 1) := by decide +kernel
theorem d_V_reclaim_43 : decode b_V_reclaim 43 = .ok (.aload_n 0, 1) := by decide +kernel
theorem d_V_reclaim_44 : decode b_V_reclaim 44 = .ok (.getfield 10, 3) := by decide +kernel
theorem d_V_reclaim_47 : decode b_V_reclaim 47 = .ok (.iload_n 3, 1) := by decide +kernel
theorem d_V_reclaim_48 : decode b_V_reclaim 48 = .ok (.invokevirtual 146, 3) := by decide +kernel
theorem d_V_reclaim_51 : decode b_V_reclaim 51 = .ok (.goto 24, 3) := by decide +kernel
theorem d_V_reclaim_54 : decode b_V_reclaim 54 = .ok (.iload_n 3, 1) := by decide +kernel
theorem d_V_reclaim_55 : decode b_V_reclaim 55 = .ok (.ifCond .eq 20, 3) := by decide +kernel
theorem d_V_reclaim_58 : decode b_V_reclaim 58 = .ok (.aload_n 0, 1) := by decide +kernel
theorem d_V_reclaim_59 : decode b_V_reclaim 59 = .ok (.getfield 10, 3) := by decide +kernel
theorem d_V_reclaim_62 : decode b_V_reclaim 62 = .ok (.iload_n 3, 1) := by decide +kernel
theorem d_V_reclaim_63 : decode b_V_reclaim 63 = .ok (.aload_n 0, 1) := by decide +kernel
theorem d_V_reclaim_64 : decode b_V_reclaim 64 = .ok (.getfield 10, 3) := by decide +kernel
theorem d_V_reclaim_67 : decode b_V_reclaim 67 = .ok (.iload_n 1, 1) := by decide +kernel
theorem d_V_reclaim_68 : decode b_V_reclaim 68 = .ok (.iload_n 3, 1) := by decide +kernel
theorem d_V_reclaim_69 : decode b_V_reclaim 69 = .ok (.invokevirtual 149, 3) := by decide +kernel
theorem d_V_reclaim_72 : decode b_V_reclaim 72 = .ok (.invokevirtual 152, 3) := by decide +kernel
theorem d_V_reclaim_75 : decode b_V_reclaim 75 = .ok (.iinc 3 1, 3) := by decide +kernel
theorem d_V_reclaim_78 : decode b_V_reclaim 78 = .ok (.goto (-60), 3) := by decide +kernel
theorem d_V_reclaim_81 : decode b_V_reclaim 81 = .ok (.iconst 0, 1) := by decide +kernel
theorem d_V_reclaim_82 : decode b_V_reclaim 82 = .ok (.istore_n 3, 1) := by decide +kernel
theorem d_V_reclaim_83 : decode b_V_reclaim 83 = .ok (.iload_n 3, 1) := by decide +kernel
theorem d_V_reclaim_84 : decode b_V_reclaim 84 = .ok (.bipush 36, 2) := by decide +kernel
theorem d_V_reclaim_86 : decode b_V_reclaim 86 = .ok (.if_icmp .ge 48, 3) := by decide +kernel
theorem d_V_reclaim_89 : decode b_V_reclaim 89 = .ok (.iload_n 3, 1) := by decide +kernel
theorem d_V_reclaim_90 : decode b_V_reclaim 90 = .ok (.invokestatic 155, 3) := by decide +kernel
theorem d_V_reclaim_93 : decode b_V_reclaim 93 = .ok (.ifCond .eq 35, 3) := by decide +kernel
theorem d_V_reclaim_96 : decode b_V_reclaim 96 = .ok (.aload_n 0, 1) := by decide +kernel
theorem d_V_reclaim_97 : decode b_V_reclaim 97 = .ok (.getfield 10, 3) := by decide +kernel
theorem d_V_reclaim_100 : decode b_V_reclaim 100 = .ok (.iload_n 1, 1) := by decide +kernel
theorem d_V_reclaim_101 : decode b_V_reclaim 101 = .ok (.iload_n 3, 1) := by decide +kernel
theorem d_V_reclaim_102 : decode b_V_reclaim 102 = .ok (.invokevirtual 158, 3) := by decide +kernel
theorem d_V_reclaim_105 : decode b_V_reclaim 105 = .ok (.ifCond .ne 23, 3) := by decide +kernel
theorem d_V_reclaim_108 : decode b_V_reclaim 108 = .ok (.iload_n 2, 1) := by decide +kernel
theorem d_V_reclaim_109 : decode b_V_reclaim 109 = .ok (.aload_n 0, 1) := by decide +kernel
theorem d_V_reclaim_110 : decode b_V_reclaim 110 = .ok (.getfield 10, 3) := by decide +kernel
theorem d_V_reclaim_113 : decode b_V_reclaim 113 = .ok (.iload_n 3, 1) := by decide +kernel
theorem d_V_reclaim_114 : decode b_V_reclaim 114 = .ok (.invokevirtual 161, 3) := by decide +kernel
theorem d_V_reclaim_117 : decode b_V_reclaim 117 = .ok (.iadd, 1) := by decide +kernel
theorem d_V_reclaim_118 : decode b_V_reclaim 118 = .ok (.istore_n 2, 1) := by decide +kernel
theorem d_V_reclaim_119 : decode b_V_reclaim 119 = .ok (.aload_n 0, 1) := by decide +kernel
theorem d_V_reclaim_120 : decode b_V_reclaim 120 = .ok (.getfield 10, 3) := by decide +kernel
theorem d_V_reclaim_123 : decode b_V_reclaim 123 = .ok (.iload_n 3, 1) := by decide +kernel
theorem d_V_reclaim_124 : decode b_V_reclaim 124 = .ok (.iconst 0, 1) := by decide +kernel
theorem d_V_reclaim_125 : decode b_V_reclaim 125 = .ok (.invokevirtual 164, 3) := by decide +kernel
theorem d_V_reclaim_128 : decode b_V_reclaim 128 = .ok (.iinc 3 1, 3) := by decide +kernel
theorem d_V_reclaim_131 : decode b_V_reclaim 131 = .ok (.goto (-48), 3) := by decide +kernel
theorem d_V_reclaim_134 : decode b_V_reclaim 134 = .ok (.iconst 0, 1) := by decide +kernel
theorem d_V_reclaim_135 : decode b_V_reclaim 135 = .ok (.istore_n 3, 1) := by decide +kernel
theorem d_V_reclaim_136 : decode b_V_reclaim 136 = .ok (.iload_n 3, 1) := by decide +kernel
theorem d_V_reclaim_137 : decode b_V_reclaim 137 = .ok (.bipush 36, 2) := by decide +kernel
theorem d_V_reclaim_139 : decode b_V_reclaim 139 = .ok (.if_icmp .ge 28, 3) := by decide +kernel
theorem d_V_reclaim_142 : decode b_V_reclaim 142 = .ok (.iload_n 3, 1) := by decide +kernel
theorem d_V_reclaim_143 : decode b_V_reclaim 143 = .ok (.invokestatic 155, 3) := by decide +kernel
theorem d_V_reclaim_146 : decode b_V_reclaim 146 = .ok (.ifCond .ne 15, 3) := by decide +kernel
theorem d_V_reclaim_149 : decode b_V_reclaim 149 = .ok (.aload_n 0, 1) := by decide +kernel
theorem d_V_reclaim_150 : decode b_V_reclaim 150 = .ok (.getfield 16, 3) := by decide +kernel
theorem d_V_reclaim_153 : decode b_V_reclaim 153 = .ok (.aload_n 0, 1) := by decide +kernel
theorem d_V_reclaim_154 : decode b_V_reclaim 154 = .ok (.getfield 10, 3) := by decide +kernel
theorem d_V_reclaim_157 : decode b_V_reclaim 157 = .ok (.iload_n 3, 1) := by decide +kernel
theorem d_V_reclaim_158 : decode b_V_reclaim 158 = .ok (.invokevirtual 135, 3) := by decide +kernel
theorem d_V_reclaim_161 : decode b_V_reclaim 161 = .ok (.iinc 3 1, 3) := by decide +kernel
theorem d_V_reclaim_164 : decode b_V_reclaim 164 = .ok (.goto (-28), 3) := by decide +kernel
theorem d_V_reclaim_167 : decode b_V_reclaim 167 = .ok (.iload_n 2, 1) := by decide +kernel
theorem d_V_reclaim_168 : decode b_V_reclaim 168 = .ok (.ireturn, 1) := by decide +kernel
abbrev b_V_takeEntryAway : ByteArray := prog_1_method_32_code
abbrev y_V_takeEntryAway : MethodName := ⟨"OrderedVolume", "takeEntryAway", "(II)V"⟩
abbrev o_V_takeEntryAway : Cond := .code y_V_takeEntryAway b_V_takeEntryAway 5 none
abbrev rm_V_takeEntryAway : Room := { frames := 4, cells := 0, slots := 0, locals := 92 }
theorem d_V_takeEntryAway_0 : decode b_V_takeEntryAway 0 = .ok (.aload_n 0, 1) := by decide +kernel
theorem d_V_takeEntryAway_1 : decode b_V_takeEntryAway 1 = .ok (.getfield 10, 3) := by decide +kernel
theorem d_V_takeEntryAway_4 : decode b_V_takeEntryAway 4 = .ok (.iload_n 1, 1) := by decide +kernel
theorem d_V_takeEntryAway_5 : decode b_V_takeEntryAway 5 = .ok (.iconst 0, 1) := by decide +kernel
theorem d_V_takeEntryAway_6 : decode b_V_takeEntryAway 6 = .ok (.invokevirtual 114, 3) := by decide +kernel
theorem d_V_takeEntryAway_9 : decode b_V_takeEntryAway 9 = .ok (.istore_n 3, 1) := by decide +kernel
theorem d_V_takeEntryAway_10 : decode b_V_takeEntryAway 10 = .ok (.aload_n 0, 1) := by decide +kernel
theorem d_V_takeEntryAway_11 : decode b_V_takeEntryAway 11 = .ok (.getfield 10, 3) := by decide +kernel
theorem d_V_takeEntryAway_14 : decode b_V_takeEntryAway 14 = .ok (.iload_n 3, 1) := by decide +kernel
theorem d_V_takeEntryAway_15 : decode b_V_takeEntryAway 15 = .ok (.iload_n 2, 1) := by decide +kernel
theorem d_V_takeEntryAway_16 : decode b_V_takeEntryAway 16 = .ok (.invokevirtual 123, 3) := by decide +kernel
theorem d_V_takeEntryAway_19 : decode b_V_takeEntryAway 19 = .ok (.bipush 32, 2) := by decide +kernel
theorem d_V_takeEntryAway_21 : decode b_V_takeEntryAway 21 = .ok (.irem, 1) := by decide +kernel
theorem d_V_takeEntryAway_22 : decode b_V_takeEntryAway 22 = .ok (.istore 4, 2) := by decide +kernel
theorem d_V_takeEntryAway_24 : decode b_V_takeEntryAway 24 = .ok (.aload_n 0, 1) := by decide +kernel
theorem d_V_takeEntryAway_25 : decode b_V_takeEntryAway 25 = .ok (.getfield 10, 3) := by decide +kernel
theorem d_V_takeEntryAway_28 : decode b_V_takeEntryAway 28 = .ok (.iload_n 3, 1) := by decide +kernel
theorem d_V_takeEntryAway_29 : decode b_V_takeEntryAway 29 = .ok (.iload_n 2, 1) := by decide +kernel
theorem d_V_takeEntryAway_30 : decode b_V_takeEntryAway 30 = .ok (.iconst 0, 1) := by decide +kernel
theorem d_V_takeEntryAway_31 : decode b_V_takeEntryAway 31 = .ok (.invokevirtual 120, 3) := by decide +kernel
theorem d_V_takeEntryAway_34 : decode b_V_takeEntryAway 34 = .ok (.aload_n 0, 1) := by decide +kernel
theorem d_V_takeEntryAway_35 : decode b_V_takeEntryAway 35 = .ok (.getfield 19, 3) := by decide +kernel
theorem d_V_takeEntryAway_38 : decode b_V_takeEntryAway 38 = .ok (.iload_n 3, 1) := by decide +kernel
theorem d_V_takeEntryAway_39 : decode b_V_takeEntryAway 39 = .ok (.dup2, 1) := by decide +kernel
theorem d_V_takeEntryAway_40 : decode b_V_takeEntryAway 40 = .ok (.iaload, 1) := by decide +kernel
theorem d_V_takeEntryAway_41 : decode b_V_takeEntryAway 41 = .ok (.iconst 1, 1) := by decide +kernel
theorem d_V_takeEntryAway_42 : decode b_V_takeEntryAway 42 = .ok (.iload_n 2, 1) := by decide +kernel
theorem d_V_takeEntryAway_43 : decode b_V_takeEntryAway 43 = .ok (.ishl, 1) := by decide +kernel
theorem d_V_takeEntryAway_44 : decode b_V_takeEntryAway 44 = .ok (.iconst (-1), 1) := by decide +kernel
theorem d_V_takeEntryAway_45 : decode b_V_takeEntryAway 45 = .ok (.ixor, 1) := by decide +kernel
theorem d_V_takeEntryAway_46 : decode b_V_takeEntryAway 46 = .ok (.iand, 1) := by decide +kernel
theorem d_V_takeEntryAway_47 : decode b_V_takeEntryAway 47 = .ok (.iastore, 1) := by decide +kernel
theorem d_V_takeEntryAway_48 : decode b_V_takeEntryAway 48 = .ok (.aload_n 0, 1) := by decide +kernel
theorem d_V_takeEntryAway_49 : decode b_V_takeEntryAway 49 = .ok (.getfield 16, 3) := by decide +kernel
theorem d_V_takeEntryAway_52 : decode b_V_takeEntryAway 52 = .ok (.iload_n 3, 1) := by decide +kernel
theorem d_V_takeEntryAway_53 : decode b_V_takeEntryAway 53 = .ok (.iload_n 2, 1) := by decide +kernel
theorem d_V_takeEntryAway_54 : decode b_V_takeEntryAway 54 = .ok (.invokevirtual 123, 3) := by decide +kernel
theorem d_V_takeEntryAway_57 : decode b_V_takeEntryAway 57 = .ok (.ifCond .ne 13, 3) := by decide +kernel
theorem d_V_takeEntryAway_60 : decode b_V_takeEntryAway 60 = .ok (.aload_n 0, 1) := by decide +kernel
theorem d_V_takeEntryAway_61 : decode b_V_takeEntryAway 61 = .ok (.iload 4, 2) := by decide +kernel
theorem d_V_takeEntryAway_63 : decode b_V_takeEntryAway 63 = .ok (.invokevirtual 200, 3) := by decide +kernel
theorem d_V_takeEntryAway_66 : decode b_V_takeEntryAway 66 = .ok (.aload_n 0, 1) := by decide +kernel
theorem d_V_takeEntryAway_67 : decode b_V_takeEntryAway 67 = .ok (.invokevirtual 129, 3) := by decide +kernel
theorem d_V_takeEntryAway_70 : decode b_V_takeEntryAway 70 = .ok (.return_, 1) := by decide +kernel
abbrev b_V_remove : ByteArray := prog_1_method_4_code
abbrev y_V_remove : MethodName := ⟨"OrderedVolume", "remove", "(II)I"⟩
abbrev o_V_remove : Cond := .code y_V_remove b_V_remove 5 (some .int)
abbrev rm_V_remove : Room := { frames := 5, cells := 0, slots := 0, locals := 116 }
theorem d_V_remove_0 : decode b_V_remove 0 = .ok (.aload_n 0, 1) := by decide +kernel
theorem d_V_remove_1 : decode b_V_remove 1 = .ok (.iload_n 1, 1) := by decide +kernel
theorem d_V_remove_2 : decode b_V_remove 2 = .ok (.invokevirtual 33, 3) := by decide +kernel
theorem d_V_remove_5 : decode b_V_remove 5 = .ok (.ifCond .ne 5, 3) := by decide +kernel
theorem d_V_remove_8 : decode b_V_remove 8 = .ok (.iconst (-1), 1) := by decide +kernel
theorem d_V_remove_9 : decode b_V_remove 9 = .ok (.ireturn, 1) := by decide +kernel
theorem d_V_remove_10 : decode b_V_remove 10 = .ok (.aload_n 0, 1) := by decide +kernel
theorem d_V_remove_11 : decode b_V_remove 11 = .ok (.getfield 10, 3) := by decide +kernel
theorem d_V_remove_14 : decode b_V_remove 14 = .ok (.iload_n 1, 1) := by decide +kernel
theorem d_V_remove_15 : decode b_V_remove 15 = .ok (.iload_n 2, 1) := by decide +kernel
theorem d_V_remove_16 : decode b_V_remove 16 = .ok (.invokevirtual 89, 3) := by decide +kernel
theorem d_V_remove_19 : decode b_V_remove 19 = .ok (.istore_n 3, 1) := by decide +kernel
theorem d_V_remove_20 : decode b_V_remove 20 = .ok (.iload_n 3, 1) := by decide +kernel
theorem d_V_remove_21 : decode b_V_remove 21 = .ok (.iconst (-1), 1) := by decide +kernel
theorem d_V_remove_22 : decode b_V_remove 22 = .ok (.if_icmp .ne 5, 3) := by decide +kernel
theorem d_V_remove_25 : decode b_V_remove 25 = .ok (.iconst (-1), 1) := by decide +kernel
theorem d_V_remove_26 : decode b_V_remove 26 = .ok (.ireturn, 1) := by decide +kernel
theorem d_V_remove_27 : decode b_V_remove 27 = .ok (.aload_n 0, 1) := by decide +kernel
theorem d_V_remove_28 : decode b_V_remove 28 = .ok (.getfield 10, 3) := by decide +kernel
theorem d_V_remove_31 : decode b_V_remove 31 = .ok (.iload_n 1, 1) := by decide +kernel
theorem d_V_remove_32 : decode b_V_remove 32 = .ok (.iload_n 3, 1) := by decide +kernel
theorem d_V_remove_33 : decode b_V_remove 33 = .ok (.invokevirtual 92, 3) := by decide +kernel
theorem d_V_remove_36 : decode b_V_remove 36 = .ok (.bipush 32, 2) := by decide +kernel
theorem d_V_remove_38 : decode b_V_remove 38 = .ok (.irem, 1) := by decide +kernel
theorem d_V_remove_39 : decode b_V_remove 39 = .ok (.istore 4, 2) := by decide +kernel
theorem d_V_remove_41 : decode b_V_remove 41 = .ok (.aload_n 0, 1) := by decide +kernel
theorem d_V_remove_42 : decode b_V_remove 42 = .ok (.getfield 10, 3) := by decide +kernel
theorem d_V_remove_45 : decode b_V_remove 45 = .ok (.iload 4, 2) := by decide +kernel
theorem d_V_remove_47 : decode b_V_remove 47 = .ok (.invokevirtual 95, 3) := by decide +kernel
theorem d_V_remove_50 : decode b_V_remove 50 = .ok (.ifCond .le 6, 3) := by decide +kernel
theorem d_V_remove_53 : decode b_V_remove 53 = .ok (.bipush (-4), 2) := by decide +kernel
theorem d_V_remove_55 : decode b_V_remove 55 = .ok (.ireturn, 1) := by decide +kernel
theorem d_V_remove_56 : decode b_V_remove 56 = .ok (.aload_n 0, 1) := by decide +kernel
theorem d_V_remove_57 : decode b_V_remove 57 = .ok (.iload_n 1, 1) := by decide +kernel
theorem d_V_remove_58 : decode b_V_remove 58 = .ok (.iload_n 3, 1) := by decide +kernel
theorem d_V_remove_59 : decode b_V_remove 59 = .ok (.invokevirtual 98, 3) := by decide +kernel
theorem d_V_remove_62 : decode b_V_remove 62 = .ok (.iload 4, 2) := by decide +kernel
theorem d_V_remove_64 : decode b_V_remove 64 = .ok (.ireturn, 1) := by decide +kernel
abbrev b_V_rename : ByteArray := prog_1_method_5_code
abbrev y_V_rename : MethodName := ⟨"OrderedVolume", "rename", "(IIII)I"⟩
abbrev o_V_rename : Cond := .code y_V_rename b_V_rename 9 (some .int)
abbrev rm_V_rename : Room := { frames := 6, cells := 0, slots := 0, locals := 147 }
theorem d_V_rename_0 : decode b_V_rename 0 = .ok (.aload_n 0, 1) := by decide +kernel
theorem d_V_rename_1 : decode b_V_rename 1 = .ok (.iload_n 1, 1) := by decide +kernel
theorem d_V_rename_2 : decode b_V_rename 2 = .ok (.invokevirtual 33, 3) := by decide +kernel
theorem d_V_rename_5 : decode b_V_rename 5 = .ok (.ifCond .eq 19, 3) := by decide +kernel
theorem d_V_rename_8 : decode b_V_rename 8 = .ok (.aload_n 0, 1) := by decide +kernel
theorem d_V_rename_9 : decode b_V_rename 9 = .ok (.iload_n 3, 1) := by decide +kernel
theorem d_V_rename_10 : decode b_V_rename 10 = .ok (.invokevirtual 33, 3) := by decide +kernel
theorem d_V_rename_13 : decode b_V_rename 13 = .ok (.ifCond .eq 11, 3) := by decide +kernel
theorem d_V_rename_16 : decode b_V_rename 16 = .ok (.iload 4, 2) := by decide +kernel
theorem d_V_rename_18 : decode b_V_rename 18 = .ok (.invokestatic 37, 3) := by decide +kernel
theorem d_V_rename_21 : decode b_V_rename 21 = .ok (.ifCond .ne 5, 3) := by decide +kernel
theorem d_V_rename_24 : decode b_V_rename 24 = .ok (.iconst (-1), 1) := by decide +kernel
theorem d_V_rename_25 : decode b_V_rename 25 = .ok (.ireturn, 1) := by decide +kernel
theorem d_V_rename_26 : decode b_V_rename 26 = .ok (.aload_n 0, 1) := by decide +kernel
theorem d_V_rename_27 : decode b_V_rename 27 = .ok (.getfield 10, 3) := by decide +kernel
theorem d_V_rename_30 : decode b_V_rename 30 = .ok (.iload_n 1, 1) := by decide +kernel
theorem d_V_rename_31 : decode b_V_rename 31 = .ok (.iload_n 2, 1) := by decide +kernel
theorem d_V_rename_32 : decode b_V_rename 32 = .ok (.invokevirtual 89, 3) := by decide +kernel
theorem d_V_rename_35 : decode b_V_rename 35 = .ok (.istore 5, 2) := by decide +kernel
theorem d_V_rename_37 : decode b_V_rename 37 = .ok (.iload 5, 2) := by decide +kernel
theorem d_V_rename_39 : decode b_V_rename 39 = .ok (.iconst (-1), 1) := by decide +kernel
theorem d_V_rename_40 : decode b_V_rename 40 = .ok (.if_icmp .ne 5, 3) := by decide +kernel
theorem d_V_rename_43 : decode b_V_rename 43 = .ok (.iconst (-1), 1) := by decide +kernel
theorem d_V_rename_44 : decode b_V_rename 44 = .ok (.ireturn, 1) := by decide +kernel
theorem d_V_rename_45 : decode b_V_rename 45 = .ok (.aload_n 0, 1) := by decide +kernel
theorem d_V_rename_46 : decode b_V_rename 46 = .ok (.getfield 10, 3) := by decide +kernel
theorem d_V_rename_49 : decode b_V_rename 49 = .ok (.iload_n 1, 1) := by decide +kernel
theorem d_V_rename_50 : decode b_V_rename 50 = .ok (.iload 5, 2) := by decide +kernel
theorem d_V_rename_52 : decode b_V_rename 52 = .ok (.invokevirtual 92, 3) := by decide +kernel
theorem d_V_rename_55 : decode b_V_rename 55 = .ok (.bipush 32, 2) := by decide +kernel
theorem d_V_rename_57 : decode b_V_rename 57 = .ok (.irem, 1) := by decide +kernel
theorem d_V_rename_58 : decode b_V_rename 58 = .ok (.istore 6, 2) := by decide +kernel
theorem d_V_rename_60 : decode b_V_rename 60 = .ok (.aload_n 0, 1) := by decide +kernel
theorem d_V_rename_61 : decode b_V_rename 61 = .ok (.getfield 10, 3) := by decide +kernel
theorem d_V_rename_64 : decode b_V_rename 64 = .ok (.iload 6, 2) := by decide +kernel
theorem d_V_rename_66 : decode b_V_rename 66 = .ok (.invokevirtual 101, 3) := by decide +kernel
theorem d_V_rename_69 : decode b_V_rename 69 = .ok (.iconst 2, 1) := by decide +kernel
theorem d_V_rename_70 : decode b_V_rename 70 = .ok (.if_icmp .ne 7, 3) := by decide +kernel
theorem d_V_rename_73 : decode b_V_rename 73 = .ok (.iconst 1, 1) := by decide +kernel
theorem d_V_rename_74 : decode b_V_rename 74 = .ok (.goto 4, 3) := by decide +kernel
theorem d_V_rename_77 : decode b_V_rename 77 = .ok (.iconst 0, 1) := by decide +kernel
theorem d_V_rename_78 : decode b_V_rename 78 = .ok (.istore 7, 2) := by decide +kernel
theorem d_V_rename_80 : decode b_V_rename 80 = .ok (.aload_n 0, 1) := by decide +kernel
theorem d_V_rename_81 : decode b_V_rename 81 = .ok (.getfield 10, 3) := by decide +kernel
theorem d_V_rename_84 : decode b_V_rename 84 = .ok (.iload_n 3, 1) := by decide +kernel
theorem d_V_rename_85 : decode b_V_rename 85 = .ok (.iload 4, 2) := by decide +kernel
theorem d_V_rename_87 : decode b_V_rename 87 = .ok (.invokevirtual 89, 3) := by decide +kernel
theorem d_V_rename_90 : decode b_V_rename 90 = .ok (.iconst (-1), 1) := by decide +kernel
theorem d_V_rename_91 : decode b_V_rename 91 = .ok (.if_icmp .eq 6, 3) := by decide +kernel
theorem d_V_rename_94 : decode b_V_rename 94 = .ok (.bipush (-2), 2) := by decide +kernel
theorem d_V_rename_96 : decode b_V_rename 96 = .ok (.ireturn, 1) := by decide +kernel
theorem d_V_rename_97 : decode b_V_rename 97 = .ok (.iload 7, 2) := by decide +kernel
theorem d_V_rename_99 : decode b_V_rename 99 = .ok (.ifCond .eq 22, 3) := by decide +kernel
theorem d_V_rename_102 : decode b_V_rename 102 = .ok (.aload_n 0, 1) := by decide +kernel
theorem d_V_rename_103 : decode b_V_rename 103 = .ok (.getfield 10, 3) := by decide +kernel
theorem d_V_rename_106 : decode b_V_rename 106 = .ok (.iload 6, 2) := by decide +kernel
theorem d_V_rename_108 : decode b_V_rename 108 = .ok (.invokevirtual 104, 3) := by decide +kernel
theorem d_V_rename_111 : decode b_V_rename 111 = .ok (.iload_n 3, 1) := by decide +kernel
theorem d_V_rename_112 : decode b_V_rename 112 = .ok (.invokestatic 107, 3) := by decide +kernel
theorem d_V_rename_115 : decode b_V_rename 115 = .ok (.ifCond .eq 6, 3) := by decide +kernel
theorem d_V_rename_118 : decode b_V_rename 118 = .ok (.bipush (-4), 2) := by decide +kernel
theorem d_V_rename_120 : decode b_V_rename 120 = .ok (.ireturn, 1) := by decide +kernel
theorem d_V_rename_121 : decode b_V_rename 121 = .ok (.aload_n 0, 1) := by decide +kernel
theorem d_V_rename_122 : decode b_V_rename 122 = .ok (.getfield 10, 3) := by decide +kernel
theorem d_V_rename_125 : decode b_V_rename 125 = .ok (.iload_n 3, 1) := by decide +kernel
theorem d_V_rename_126 : decode b_V_rename 126 = .ok (.invokevirtual 95, 3) := by decide +kernel
theorem d_V_rename_129 : decode b_V_rename 129 = .ok (.bipush 8, 2) := by decide +kernel
theorem d_V_rename_131 : decode b_V_rename 131 = .ok (.if_icmp .ne 6, 3) := by decide +kernel
theorem d_V_rename_134 : decode b_V_rename 134 = .ok (.bipush (-3), 2) := by decide +kernel
theorem d_V_rename_136 : decode b_V_rename 136 = .ok (.ireturn, 1) := by decide +kernel
theorem d_V_rename_137 : decode b_V_rename 137 = .ok (.aload_n 0, 1) := by decide +kernel
theorem d_V_rename_138 : decode b_V_rename 138 = .ok (.iload_n 3, 1) := by decide +kernel
theorem d_V_rename_139 : decode b_V_rename 139 = .ok (.invokevirtual 77, 3) := by decide +kernel
theorem d_V_rename_142 : decode b_V_rename 142 = .ok (.iconst (-1), 1) := by decide +kernel
theorem d_V_rename_143 : decode b_V_rename 143 = .ok (.if_icmp .ne 8, 3) := by decide +kernel
theorem d_V_rename_146 : decode b_V_rename 146 = .ok (.aload_n 0, 1) := by decide +kernel
theorem d_V_rename_147 : decode b_V_rename 147 = .ok (.invokevirtual 48, 3) := by decide +kernel
theorem d_V_rename_150 : decode b_V_rename 150 = .ok (.pop, 1) := by decide +kernel
theorem d_V_rename_151 : decode b_V_rename 151 = .ok (.aload_n 0, 1) := by decide +kernel
theorem d_V_rename_152 : decode b_V_rename 152 = .ok (.iload_n 3, 1) := by decide +kernel
theorem d_V_rename_153 : decode b_V_rename 153 = .ok (.invokevirtual 77, 3) := by decide +kernel
theorem d_V_rename_156 : decode b_V_rename 156 = .ok (.istore 8, 2) := by decide +kernel
theorem d_V_rename_158 : decode b_V_rename 158 = .ok (.iload 8, 2) := by decide +kernel
theorem d_V_rename_160 : decode b_V_rename 160 = .ok (.iconst (-1), 1) := by decide +kernel
theorem d_V_rename_161 : decode b_V_rename 161 = .ok (.if_icmp .ne 6, 3) := by decide +kernel
theorem d_V_rename_164 : decode b_V_rename 164 = .ok (.bipush (-3), 2) := by decide +kernel
theorem d_V_rename_166 : decode b_V_rename 166 = .ok (.ireturn, 1) := by decide +kernel
theorem d_V_rename_167 : decode b_V_rename 167 = .ok (.aload_n 0, 1) := by decide +kernel
theorem d_V_rename_168 : decode b_V_rename 168 = .ok (.iload_n 3, 1) := by decide +kernel
theorem d_V_rename_169 : decode b_V_rename 169 = .ok (.iload 8, 2) := by decide +kernel
theorem d_V_rename_171 : decode b_V_rename 171 = .ok (.bipush 32, 2) := by decide +kernel
theorem d_V_rename_173 : decode b_V_rename 173 = .ok (.iload 4, 2) := by decide +kernel
theorem d_V_rename_175 : decode b_V_rename 175 = .ok (.imul, 1) := by decide +kernel
theorem d_V_rename_176 : decode b_V_rename 176 = .ok (.iload 6, 2) := by decide +kernel
theorem d_V_rename_178 : decode b_V_rename 178 = .ok (.iadd, 1) := by decide +kernel
theorem d_V_rename_179 : decode b_V_rename 179 = .ok (.invokevirtual 80, 3) := by decide +kernel
theorem d_V_rename_182 : decode b_V_rename 182 = .ok (.aload_n 0, 1) := by decide +kernel
theorem d_V_rename_183 : decode b_V_rename 183 = .ok (.iload_n 1, 1) := by decide +kernel
theorem d_V_rename_184 : decode b_V_rename 184 = .ok (.iload 5, 2) := by decide +kernel
theorem d_V_rename_186 : decode b_V_rename 186 = .ok (.invokevirtual 98, 3) := by decide +kernel
theorem d_V_rename_189 : decode b_V_rename 189 = .ok (.aload_n 0, 1) := by decide +kernel
theorem d_V_rename_190 : decode b_V_rename 190 = .ok (.aload_n 0, 1) := by decide +kernel
theorem d_V_rename_191 : decode b_V_rename 191 = .ok (.getfield 29, 3) := by decide +kernel
theorem d_V_rename_194 : decode b_V_rename 194 = .ok (.ifCond .ne 8, 3) := by decide +kernel
theorem d_V_rename_197 : decode b_V_rename 197 = .ok (.iload 7, 2) := by decide +kernel
theorem d_V_rename_199 : decode b_V_rename 199 = .ok (.ifCond .eq 7, 3) := by decide +kernel
theorem d_V_rename_202 : decode b_V_rename 202 = .ok (.iconst 1, 1) := by decide +kernel
theorem d_V_rename_203 : decode b_V_rename 203 = .ok (.goto 4, 3) := by decide +kernel
theorem d_V_rename_206 : decode b_V_rename 206 = .ok (.iconst 0, 1) := by decide +kernel
theorem d_V_rename_207 : decode b_V_rename 207 = .ok (.putfield 29, 3) := by decide +kernel
theorem d_V_rename_210 : decode b_V_rename 210 = .ok (.iload 6, 2) := by decide +kernel
theorem d_V_rename_212 : decode b_V_rename 212 = .ok (.ireturn, 1) := by decide +kernel
abbrev b_V_sync : ByteArray := prog_1_method_11_code
abbrev y_V_sync : MethodName := ⟨"OrderedVolume", "sync", "()I"⟩
abbrev o_V_sync : Cond := .code y_V_sync b_V_sync 1 (some .int)
abbrev rm_V_sync : Room := { frames := 6, cells := 0, slots := 0, locals := 147 }
theorem d_V_sync_0 : decode b_V_sync 0 = .ok (.aload_n 0, 1) := by decide +kernel
theorem d_V_sync_1 : decode b_V_sync 1 = .ok (.invokevirtual 48, 3) := by decide +kernel
theorem d_V_sync_4 : decode b_V_sync 4 = .ok (.ireturn, 1) := by decide +kernel
abbrev b_V_write : ByteArray := prog_1_method_6_code
abbrev y_V_write : MethodName := ⟨"OrderedVolume", "write", "(III)I"⟩
abbrev o_V_write : Cond := .code y_V_write b_V_write 6 (some .int)
abbrev rm_V_write : Room := { frames := 6, cells := 0, slots := 0, locals := 147 }
theorem d_V_write_0 : decode b_V_write 0 = .ok (.aload_n 0, 1) := by decide +kernel
theorem d_V_write_1 : decode b_V_write 1 = .ok (.iload_n 1, 1) := by decide +kernel
theorem d_V_write_2 : decode b_V_write 2 = .ok (.invokevirtual 83, 3) := by decide +kernel
theorem d_V_write_5 : decode b_V_write 5 = .ok (.ifCond .eq 10, 3) := by decide +kernel
theorem d_V_write_8 : decode b_V_write 8 = .ok (.iload_n 2, 1) := by decide +kernel
theorem d_V_write_9 : decode b_V_write 9 = .ok (.invokestatic 111, 3) := by decide +kernel
theorem d_V_write_12 : decode b_V_write 12 = .ok (.ifCond .ne 5, 3) := by decide +kernel
theorem d_V_write_15 : decode b_V_write 15 = .ok (.iconst (-1), 1) := by decide +kernel
theorem d_V_write_16 : decode b_V_write 16 = .ok (.ireturn, 1) := by decide +kernel
theorem d_V_write_17 : decode b_V_write 17 = .ok (.iload_n 2, 1) := by decide +kernel
theorem d_V_write_18 : decode b_V_write 18 = .ok (.bipush 8, 2) := by decide +kernel
theorem d_V_write_20 : decode b_V_write 20 = .ok (.idiv, 1) := by decide +kernel
theorem d_V_write_21 : decode b_V_write 21 = .ok (.istore 4, 2) := by decide +kernel
theorem d_V_write_23 : decode b_V_write 23 = .ok (.aload_n 0, 1) := by decide +kernel
theorem d_V_write_24 : decode b_V_write 24 = .ok (.getfield 10, 3) := by decide +kernel
theorem d_V_write_27 : decode b_V_write 27 = .ok (.iload_n 1, 1) := by decide +kernel
theorem d_V_write_28 : decode b_V_write 28 = .ok (.iload 4, 2) := by decide +kernel
theorem d_V_write_30 : decode b_V_write 30 = .ok (.invokevirtual 114, 3) := by decide +kernel
theorem d_V_write_33 : decode b_V_write 33 = .ok (.ifCond .ne 59, 3) := by decide +kernel
theorem d_V_write_36 : decode b_V_write 36 = .ok (.aload_n 0, 1) := by decide +kernel
theorem d_V_write_37 : decode b_V_write 37 = .ok (.iload_n 1, 1) := by decide +kernel
theorem d_V_write_38 : decode b_V_write 38 = .ok (.iload 4, 2) := by decide +kernel
theorem d_V_write_40 : decode b_V_write 40 = .ok (.invokevirtual 117, 3) := by decide +kernel
theorem d_V_write_43 : decode b_V_write 43 = .ok (.istore 5, 2) := by decide +kernel
theorem d_V_write_45 : decode b_V_write 45 = .ok (.iload 5, 2) := by decide +kernel
theorem d_V_write_47 : decode b_V_write 47 = .ok (.iconst (-1), 1) := by decide +kernel
theorem d_V_write_48 : decode b_V_write 48 = .ok (.if_icmp .ne 17, 3) := by decide +kernel
theorem d_V_write_51 : decode b_V_write 51 = .ok (.aload_n 0, 1) := by decide +kernel
theorem d_V_write_52 : decode b_V_write 52 = .ok (.invokevirtual 48, 3) := by decide +kernel
theorem d_V_write_55 : decode b_V_write 55 = .ok (.pop, 1) := by decide +kernel
theorem d_V_write_56 : decode b_V_write 56 = .ok (.aload_n 0, 1) := by decide +kernel
theorem d_V_write_57 : decode b_V_write 57 = .ok (.iload_n 1, 1) := by decide +kernel
theorem d_V_write_58 : decode b_V_write 58 = .ok (.iload 4, 2) := by decide +kernel
theorem d_V_write_60 : decode b_V_write 60 = .ok (.invokevirtual 117, 3) := by decide +kernel
theorem d_V_write_63 : decode b_V_write 63 = .ok (.istore 5, 2) := by decide +kernel
theorem d_V_write_65 : decode b_V_write 65 = .ok (.iload 5, 2) := by decide +kernel
theorem d_V_write_67 : decode b_V_write 67 = .ok (.iconst (-1), 1) := by decide +kernel
theorem d_V_write_68 : decode b_V_write 68 = .ok (.if_icmp .ne 6, 3) := by decide +kernel
theorem d_V_write_71 : decode b_V_write 71 = .ok (.bipush (-3), 2) := by decide +kernel
theorem d_V_write_73 : decode b_V_write 73 = .ok (.ireturn, 1) := by decide +kernel
theorem d_V_write_74 : decode b_V_write 74 = .ok (.aload_n 0, 1) := by decide +kernel
theorem d_V_write_75 : decode b_V_write 75 = .ok (.iload 5, 2) := by decide +kernel
theorem d_V_write_77 : decode b_V_write 77 = .ok (.invokevirtual 69, 3) := by decide +kernel
theorem d_V_write_80 : decode b_V_write 80 = .ok (.aload_n 0, 1) := by decide +kernel
theorem d_V_write_81 : decode b_V_write 81 = .ok (.getfield 10, 3) := by decide +kernel
theorem d_V_write_84 : decode b_V_write 84 = .ok (.iload_n 1, 1) := by decide +kernel
theorem d_V_write_85 : decode b_V_write 85 = .ok (.iload 4, 2) := by decide +kernel
theorem d_V_write_87 : decode b_V_write 87 = .ok (.iload 5, 2) := by decide +kernel
theorem d_V_write_89 : decode b_V_write 89 = .ok (.invokevirtual 73, 3) := by decide +kernel
theorem d_V_write_92 : decode b_V_write 92 = .ok (.aload_n 0, 1) := by decide +kernel
theorem d_V_write_93 : decode b_V_write 93 = .ok (.getfield 10, 3) := by decide +kernel
theorem d_V_write_96 : decode b_V_write 96 = .ok (.iload_n 1, 1) := by decide +kernel
theorem d_V_write_97 : decode b_V_write 97 = .ok (.iload 4, 2) := by decide +kernel
theorem d_V_write_99 : decode b_V_write 99 = .ok (.invokevirtual 114, 3) := by decide +kernel
theorem d_V_write_102 : decode b_V_write 102 = .ok (.istore 5, 2) := by decide +kernel
theorem d_V_write_104 : decode b_V_write 104 = .ok (.aload_n 0, 1) := by decide +kernel
theorem d_V_write_105 : decode b_V_write 105 = .ok (.getfield 10, 3) := by decide +kernel
theorem d_V_write_108 : decode b_V_write 108 = .ok (.iload 5, 2) := by decide +kernel
theorem d_V_write_110 : decode b_V_write 110 = .ok (.iload_n 2, 1) := by decide +kernel
theorem d_V_write_111 : decode b_V_write 111 = .ok (.bipush 8, 2) := by decide +kernel
theorem d_V_write_113 : decode b_V_write 113 = .ok (.irem, 1) := by decide +kernel
theorem d_V_write_114 : decode b_V_write 114 = .ok (.iload_n 3, 1) := by decide +kernel
theorem d_V_write_115 : decode b_V_write 115 = .ok (.invokevirtual 120, 3) := by decide +kernel
theorem d_V_write_118 : decode b_V_write 118 = .ok (.iload 5, 2) := by decide +kernel
theorem d_V_write_120 : decode b_V_write 120 = .ok (.ireturn, 1) := by decide +kernel
abbrev b_R_at : ByteArray := prog_4_method_3_code
abbrev y_R_at : MethodName := ⟨"OrderedVolumeModel", "at", "(II)I"⟩
abbrev o_R_at : Cond := .code y_R_at b_R_at 2 (some .int)
abbrev rm_R_at : Room := { frames := 0, cells := 0, slots := 0, locals := 0 }
theorem d_R_at_0 : decode b_R_at 0 = .ok (.iload_n 0, 1) := by decide +kernel
theorem d_R_at_1 : decode b_R_at 1 = .ok (.bipush 6, 2) := by decide +kernel
theorem d_R_at_3 : decode b_R_at 3 = .ok (.idiv, 1) := by decide +kernel
theorem d_R_at_4 : decode b_R_at 4 = .ok (.bipush 12, 2) := by decide +kernel
theorem d_R_at_6 : decode b_R_at 6 = .ok (.imul, 1) := by decide +kernel
theorem d_R_at_7 : decode b_R_at 7 = .ok (.iconst 1, 1) := by decide +kernel
theorem d_R_at_8 : decode b_R_at 8 = .ok (.iadd, 1) := by decide +kernel
theorem d_R_at_9 : decode b_R_at 9 = .ok (.bipush 30, 2) := by decide +kernel
theorem d_R_at_11 : decode b_R_at 11 = .ok (.imul, 1) := by decide +kernel
theorem d_R_at_12 : decode b_R_at 12 = .ok (.iload_n 0, 1) := by decide +kernel
theorem d_R_at_13 : decode b_R_at 13 = .ok (.bipush 6, 2) := by decide +kernel
theorem d_R_at_15 : decode b_R_at 15 = .ok (.irem, 1) := by decide +kernel
theorem d_R_at_16 : decode b_R_at 16 = .ok (.iconst 5, 1) := by decide +kernel
theorem d_R_at_17 : decode b_R_at 17 = .ok (.imul, 1) := by decide +kernel
theorem d_R_at_18 : decode b_R_at 18 = .ok (.iadd, 1) := by decide +kernel
theorem d_R_at_19 : decode b_R_at 19 = .ok (.iload_n 1, 1) := by decide +kernel
theorem d_R_at_20 : decode b_R_at 20 = .ok (.iadd, 1) := by decide +kernel
theorem d_R_at_21 : decode b_R_at 21 = .ok (.ireturn, 1) := by decide +kernel
abbrev b_R_owner : ByteArray := prog_4_method_20_code
abbrev y_R_owner : MethodName := ⟨"OrderedVolumeModel", "owner", "(I)I"⟩
abbrev o_R_owner : Cond := .code y_R_owner b_R_owner 4 (some .int)
abbrev rm_R_owner : Room := { frames := 1, cells := 0, slots := 0, locals := 21 }
theorem d_R_owner_0 : decode b_R_owner 0 = .ok (.iconst 0, 1) := by decide +kernel
theorem d_R_owner_1 : decode b_R_owner 1 = .ok (.istore_n 2, 1) := by decide +kernel
theorem d_R_owner_2 : decode b_R_owner 2 = .ok (.iload_n 2, 1) := by decide +kernel
theorem d_R_owner_3 : decode b_R_owner 3 = .ok (.bipush 18, 2) := by decide +kernel
theorem d_R_owner_5 : decode b_R_owner 5 = .ok (.if_icmp .ge 47, 3) := by decide +kernel
theorem d_R_owner_8 : decode b_R_owner 8 = .ok (.iconst 2, 1) := by decide +kernel
theorem d_R_owner_9 : decode b_R_owner 9 = .ok (.istore_n 3, 1) := by decide +kernel
theorem d_R_owner_10 : decode b_R_owner 10 = .ok (.iload_n 3, 1) := by decide +kernel
theorem d_R_owner_11 : decode b_R_owner 11 = .ok (.iconst 5, 1) := by decide +kernel
theorem d_R_owner_12 : decode b_R_owner 12 = .ok (.if_icmp .ge 34, 3) := by decide +kernel
theorem d_R_owner_15 : decode b_R_owner 15 = .ok (.aload_n 0, 1) := by decide +kernel
theorem d_R_owner_16 : decode b_R_owner 16 = .ok (.getfield 7, 3) := by decide +kernel
theorem d_R_owner_19 : decode b_R_owner 19 = .ok (.iload_n 2, 1) := by decide +kernel
theorem d_R_owner_20 : decode b_R_owner 20 = .ok (.iload_n 3, 1) := by decide +kernel
theorem d_R_owner_21 : decode b_R_owner 21 = .ok (.invokestatic 44, 3) := by decide +kernel
theorem d_R_owner_24 : decode b_R_owner 24 = .ok (.iaload, 1) := by decide +kernel
theorem d_R_owner_25 : decode b_R_owner 25 = .ok (.iload_n 1, 1) := by decide +kernel
theorem d_R_owner_26 : decode b_R_owner 26 = .ok (.if_icmp .ne 14, 3) := by decide +kernel
theorem d_R_owner_29 : decode b_R_owner 29 = .ok (.aload_n 0, 1) := by decide +kernel
theorem d_R_owner_30 : decode b_R_owner 30 = .ok (.getfield 7, 3) := by decide +kernel
theorem d_R_owner_33 : decode b_R_owner 33 = .ok (.iload_n 2, 1) := by decide +kernel
theorem d_R_owner_34 : decode b_R_owner 34 = .ok (.iconst 0, 1) := by decide +kernel
theorem d_R_owner_35 : decode b_R_owner 35 = .ok (.invokestatic 44, 3) := by decide +kernel
theorem d_R_owner_38 : decode b_R_owner 38 = .ok (.iaload, 1) := by decide +kernel
theorem d_R_owner_39 : decode b_R_owner 39 = .ok (.ireturn, 1) := by decide +kernel
theorem d_R_owner_40 : decode b_R_owner 40 = .ok (.iinc 3 1, 3) := by decide +kernel
theorem d_R_owner_43 : decode b_R_owner 43 = .ok (.goto (-33), 3) := by decide +kernel
theorem d_R_owner_46 : decode b_R_owner 46 = .ok (.iinc 2 1, 3) := by decide +kernel
theorem d_R_owner_49 : decode b_R_owner 49 = .ok (.goto (-47), 3) := by decide +kernel
theorem d_R_owner_52 : decode b_R_owner 52 = .ok (.iconst 0, 1) := by decide +kernel
theorem d_R_owner_53 : decode b_R_owner 53 = .ok (.ireturn, 1) := by decide +kernel
abbrev b_R_size : ByteArray := prog_4_method_2_code
abbrev y_R_size : MethodName := ⟨"OrderedVolumeModel", "size", "(I)I"⟩
abbrev o_R_size : Cond := .code y_R_size b_R_size 1 (some .int)
abbrev rm_R_size : Room := { frames := 0, cells := 0, slots := 0, locals := 0 }
theorem d_R_size_0 : decode b_R_size 0 = .ok (.iload_n 0, 1) := by decide +kernel
theorem d_R_size_1 : decode b_R_size 1 = .ok (.bipush 12, 2) := by decide +kernel
theorem d_R_size_3 : decode b_R_size 3 = .ok (.irem, 1) := by decide +kernel
theorem d_R_size_4 : decode b_R_size 4 = .ok (.ifCond .ne 8, 3) := by decide +kernel
theorem d_R_size_7 : decode b_R_size 7 = .ok (.bipush 16, 2) := by decide +kernel
theorem d_R_size_9 : decode b_R_size 9 = .ok (.goto 18, 3) := by decide +kernel
theorem d_R_size_12 : decode b_R_size 12 = .ok (.iload_n 0, 1) := by decide +kernel
theorem d_R_size_13 : decode b_R_size 13 = .ok (.bipush 12, 2) := by decide +kernel
theorem d_R_size_15 : decode b_R_size 15 = .ok (.irem, 1) := by decide +kernel
theorem d_R_size_16 : decode b_R_size 16 = .ok (.iconst 1, 1) := by decide +kernel
theorem d_R_size_17 : decode b_R_size 17 = .ok (.if_icmp .ne 8, 3) := by decide +kernel
theorem d_R_size_20 : decode b_R_size 20 = .ok (.bipush 30, 2) := by decide +kernel
theorem d_R_size_22 : decode b_R_size 22 = .ok (.goto 5, 3) := by decide +kernel
theorem d_R_size_25 : decode b_R_size 25 = .ok (.bipush 8, 2) := by decide +kernel
theorem d_R_size_27 : decode b_R_size 27 = .ok (.ireturn, 1) := by decide +kernel
abbrev b_R_alike : ByteArray := prog_4_method_43_code
abbrev y_R_alike : MethodName := ⟨"OrderedVolumeModel", "alike", "(I)Z"⟩
abbrev o_R_alike : Cond := .code y_R_alike b_R_alike 3 (some .boolean)
abbrev rm_R_alike : Room := { frames := 2, cells := 0, slots := 0, locals := 44 }
theorem d_R_alike_0 : decode b_R_alike 0 = .ok (.iload_n 1, 1) := by decide +kernel
theorem d_R_alike_1 : decode b_R_alike 1 = .ok (.bipush 12, 2) := by decide +kernel
theorem d_R_alike_3 : decode b_R_alike 3 = .ok (.irem, 1) := by decide +kernel
theorem d_R_alike_4 : decode b_R_alike 4 = .ok (.iconst 1, 1) := by decide +kernel
theorem d_R_alike_5 : decode b_R_alike 5 = .ok (.if_icmp .le 13, 3) := by decide +kernel
theorem d_R_alike_8 : decode b_R_alike 8 = .ok (.aload_n 0, 1) := by decide +kernel
theorem d_R_alike_9 : decode b_R_alike 9 = .ok (.iload_n 1, 1) := by decide +kernel
theorem d_R_alike_10 : decode b_R_alike 10 = .ok (.invokevirtual 93, 3) := by decide +kernel
theorem d_R_alike_13 : decode b_R_alike 13 = .ok (.ifCond .ne 5, 3) := by decide +kernel
theorem d_R_alike_16 : decode b_R_alike 16 = .ok (.iconst 1, 1) := by decide +kernel
theorem d_R_alike_17 : decode b_R_alike 17 = .ok (.ireturn, 1) := by decide +kernel
theorem d_R_alike_18 : decode b_R_alike 18 = .ok (.iconst 0, 1) := by decide +kernel
theorem d_R_alike_19 : decode b_R_alike 19 = .ok (.istore_n 2, 1) := by decide +kernel
theorem d_R_alike_20 : decode b_R_alike 20 = .ok (.iload_n 2, 1) := by decide +kernel
theorem d_R_alike_21 : decode b_R_alike 21 = .ok (.iload_n 1, 1) := by decide +kernel
theorem d_R_alike_22 : decode b_R_alike 22 = .ok (.invokestatic 55, 3) := by decide +kernel
theorem d_R_alike_25 : decode b_R_alike 25 = .ok (.if_icmp .ge 36, 3) := by decide +kernel
theorem d_R_alike_28 : decode b_R_alike 28 = .ok (.aload_n 0, 1) := by decide +kernel
theorem d_R_alike_29 : decode b_R_alike 29 = .ok (.getfield 7, 3) := by decide +kernel
theorem d_R_alike_32 : decode b_R_alike 32 = .ok (.bipush 30, 2) := by decide +kernel
theorem d_R_alike_34 : decode b_R_alike 34 = .ok (.iload_n 1, 1) := by decide +kernel
theorem d_R_alike_35 : decode b_R_alike 35 = .ok (.imul, 1) := by decide +kernel
theorem d_R_alike_36 : decode b_R_alike 36 = .ok (.iload_n 2, 1) := by decide +kernel
theorem d_R_alike_37 : decode b_R_alike 37 = .ok (.iadd, 1) := by decide +kernel
theorem d_R_alike_38 : decode b_R_alike 38 = .ok (.iaload, 1) := by decide +kernel
theorem d_R_alike_39 : decode b_R_alike 39 = .ok (.aload_n 0, 1) := by decide +kernel
theorem d_R_alike_40 : decode b_R_alike 40 = .ok (.getfield 13, 3) := by decide +kernel
theorem d_R_alike_43 : decode b_R_alike 43 = .ok (.bipush 30, 2) := by decide +kernel
theorem d_R_alike_45 : decode b_R_alike 45 = .ok (.iload_n 1, 1) := by decide +kernel
theorem d_R_alike_46 : decode b_R_alike 46 = .ok (.imul, 1) := by decide +kernel
theorem d_R_alike_47 : decode b_R_alike 47 = .ok (.iload_n 2, 1) := by decide +kernel
theorem d_R_alike_48 : decode b_R_alike 48 = .ok (.iadd, 1) := by decide +kernel
theorem d_R_alike_49 : decode b_R_alike 49 = .ok (.iaload, 1) := by decide +kernel
theorem d_R_alike_50 : decode b_R_alike 50 = .ok (.if_icmp .eq 5, 3) := by decide +kernel
theorem d_R_alike_53 : decode b_R_alike 53 = .ok (.iconst 0, 1) := by decide +kernel
theorem d_R_alike_54 : decode b_R_alike 54 = .ok (.ireturn, 1) := by decide +kernel
theorem d_R_alike_55 : decode b_R_alike 55 = .ok (.iinc 2 1, 3) := by decide +kernel
theorem d_R_alike_58 : decode b_R_alike 58 = .ok (.goto (-38), 3) := by decide +kernel
theorem d_R_alike_61 : decode b_R_alike 61 = .ok (.aload_n 0, 1) := by decide +kernel
theorem d_R_alike_62 : decode b_R_alike 62 = .ok (.getfield 16, 3) := by decide +kernel
theorem d_R_alike_65 : decode b_R_alike 65 = .ok (.iload_n 1, 1) := by decide +kernel
theorem d_R_alike_66 : decode b_R_alike 66 = .ok (.baload, 1) := by decide +kernel
theorem d_R_alike_67 : decode b_R_alike 67 = .ok (.ifCond .ne 7, 3) := by decide +kernel
theorem d_R_alike_70 : decode b_R_alike 70 = .ok (.iconst 1, 1) := by decide +kernel
theorem d_R_alike_71 : decode b_R_alike 71 = .ok (.goto 4, 3) := by decide +kernel
theorem d_R_alike_74 : decode b_R_alike 74 = .ok (.iconst 0, 1) := by decide +kernel
theorem d_R_alike_75 : decode b_R_alike 75 = .ok (.ireturn, 1) := by decide +kernel
abbrev b_R_allAlike : ByteArray := prog_4_method_44_code
abbrev y_R_allAlike : MethodName := ⟨"OrderedVolumeModel", "allAlike", "()Z"⟩
abbrev o_R_allAlike : Cond := .code y_R_allAlike b_R_allAlike 2 (some .boolean)
abbrev rm_R_allAlike : Room := { frames := 3, cells := 0, slots := 0, locals := 66 }
theorem d_R_allAlike_0 : decode b_R_allAlike 0 = .ok (.iconst 0, 1) := by decide +kernel
theorem d_R_allAlike_1 : decode b_R_allAlike 1 = .ok (.istore_n 1, 1) := by decide +kernel
theorem d_R_allAlike_2 : decode b_R_allAlike 2 = .ok (.iload_n 1, 1) := by decide +kernel
theorem d_R_allAlike_3 : decode b_R_allAlike 3 = .ok (.bipush 36, 2) := by decide +kernel
theorem d_R_allAlike_5 : decode b_R_allAlike 5 = .ok (.if_icmp .ge 19, 3) := by decide +kernel
theorem d_R_allAlike_8 : decode b_R_allAlike 8 = .ok (.aload_n 0, 1) := by decide +kernel
theorem d_R_allAlike_9 : decode b_R_allAlike 9 = .ok (.iload_n 1, 1) := by decide +kernel
theorem d_R_allAlike_10 : decode b_R_allAlike 10 = .ok (.invokevirtual 160, 3) := by decide +kernel
theorem d_R_allAlike_13 : decode b_R_allAlike 13 = .ok (.ifCond .ne 5, 3) := by decide +kernel
theorem d_R_allAlike_16 : decode b_R_allAlike 16 = .ok (.iconst 0, 1) := by decide +kernel
theorem d_R_allAlike_17 : decode b_R_allAlike 17 = .ok (.ireturn, 1) := by decide +kernel
theorem d_R_allAlike_18 : decode b_R_allAlike 18 = .ok (.iinc 1 1, 3) := by decide +kernel
theorem d_R_allAlike_21 : decode b_R_allAlike 21 = .ok (.goto (-19), 3) := by decide +kernel
theorem d_R_allAlike_24 : decode b_R_allAlike 24 = .ok (.iconst 1, 1) := by decide +kernel
theorem d_R_allAlike_25 : decode b_R_allAlike 25 = .ok (.ireturn, 1) := by decide +kernel
abbrev b_R_markOfBlock : ByteArray := prog_4_method_5_code
abbrev y_R_markOfBlock : MethodName := ⟨"OrderedVolumeModel", "markOfBlock", "(I)I"⟩
abbrev o_R_markOfBlock : Cond := .code y_R_markOfBlock b_R_markOfBlock 1 (some .int)
abbrev rm_R_markOfBlock : Room := { frames := 0, cells := 0, slots := 0, locals := 0 }
theorem d_R_markOfBlock_0 : decode b_R_markOfBlock 0 = .ok (.iload_n 0, 1) := by decide +kernel
theorem d_R_markOfBlock_1 : decode b_R_markOfBlock 1 = .ok (.bipush 12, 2) := by decide +kernel
theorem d_R_markOfBlock_3 : decode b_R_markOfBlock 3 = .ok (.idiv, 1) := by decide +kernel
theorem d_R_markOfBlock_4 : decode b_R_markOfBlock 4 = .ok (.bipush 12, 2) := by decide +kernel
theorem d_R_markOfBlock_6 : decode b_R_markOfBlock 6 = .ok (.imul, 1) := by decide +kernel
theorem d_R_markOfBlock_7 : decode b_R_markOfBlock 7 = .ok (.bipush 30, 2) := by decide +kernel
theorem d_R_markOfBlock_9 : decode b_R_markOfBlock 9 = .ok (.imul, 1) := by decide +kernel
theorem d_R_markOfBlock_10 : decode b_R_markOfBlock 10 = .ok (.iconst 4, 1) := by decide +kernel
theorem d_R_markOfBlock_11 : decode b_R_markOfBlock 11 = .ok (.iadd, 1) := by decide +kernel
theorem d_R_markOfBlock_12 : decode b_R_markOfBlock 12 = .ok (.iload_n 0, 1) := by decide +kernel
theorem d_R_markOfBlock_13 : decode b_R_markOfBlock 13 = .ok (.bipush 12, 2) := by decide +kernel
theorem d_R_markOfBlock_15 : decode b_R_markOfBlock 15 = .ok (.irem, 1) := by decide +kernel
theorem d_R_markOfBlock_16 : decode b_R_markOfBlock 16 = .ok (.iadd, 1) := by decide +kernel
theorem d_R_markOfBlock_17 : decode b_R_markOfBlock 17 = .ok (.ireturn, 1) := by decide +kernel
abbrev b_R_blockFrom : ByteArray := prog_4_method_25_code
abbrev y_R_blockFrom : MethodName := ⟨"OrderedVolumeModel", "blockFrom", "(I)I"⟩
abbrev o_R_blockFrom : Cond := .code y_R_blockFrom b_R_blockFrom 4 (some .int)
abbrev rm_R_blockFrom : Room := { frames := 1, cells := 0, slots := 0, locals := 20 }
theorem d_R_blockFrom_0 : decode b_R_blockFrom 0 = .ok (.iconst 0, 1) := by decide +kernel
theorem d_R_blockFrom_1 : decode b_R_blockFrom 1 = .ok (.istore_n 2, 1) := by decide +kernel
theorem d_R_blockFrom_2 : decode b_R_blockFrom 2 = .ok (.iload_n 2, 1) := by decide +kernel
theorem d_R_blockFrom_3 : decode b_R_blockFrom 3 = .ok (.bipush 36, 2) := by decide +kernel
theorem d_R_blockFrom_5 : decode b_R_blockFrom 5 = .ok (.if_icmp .ge 41, 3) := by decide +kernel
theorem d_R_blockFrom_8 : decode b_R_blockFrom 8 = .ok (.iload_n 1, 1) := by decide +kernel
theorem d_R_blockFrom_9 : decode b_R_blockFrom 9 = .ok (.bipush 12, 2) := by decide +kernel
theorem d_R_blockFrom_11 : decode b_R_blockFrom 11 = .ok (.imul, 1) := by decide +kernel
theorem d_R_blockFrom_12 : decode b_R_blockFrom 12 = .ok (.iload_n 2, 1) := by decide +kernel
theorem d_R_blockFrom_13 : decode b_R_blockFrom 13 = .ok (.iadd, 1) := by decide +kernel
theorem d_R_blockFrom_14 : decode b_R_blockFrom 14 = .ok (.bipush 36, 2) := by decide +kernel
theorem d_R_blockFrom_16 : decode b_R_blockFrom 16 = .ok (.irem, 1) := by decide +kernel
theorem d_R_blockFrom_17 : decode b_R_blockFrom 17 = .ok (.istore_n 3, 1) := by decide +kernel
theorem d_R_blockFrom_18 : decode b_R_blockFrom 18 = .ok (.iload_n 3, 1) := by decide +kernel
theorem d_R_blockFrom_19 : decode b_R_blockFrom 19 = .ok (.bipush 12, 2) := by decide +kernel
theorem d_R_blockFrom_21 : decode b_R_blockFrom 21 = .ok (.irem, 1) := by decide +kernel
theorem d_R_blockFrom_22 : decode b_R_blockFrom 22 = .ok (.iconst 1, 1) := by decide +kernel
theorem d_R_blockFrom_23 : decode b_R_blockFrom 23 = .ok (.if_icmp .le 17, 3) := by decide +kernel
theorem d_R_blockFrom_26 : decode b_R_blockFrom 26 = .ok (.aload_n 0, 1) := by decide +kernel
theorem d_R_blockFrom_27 : decode b_R_blockFrom 27 = .ok (.getfield 7, 3) := by decide +kernel
theorem d_R_blockFrom_30 : decode b_R_blockFrom 30 = .ok (.iload_n 3, 1) := by decide +kernel
theorem d_R_blockFrom_31 : decode b_R_blockFrom 31 = .ok (.invokestatic 52, 3) := by decide +kernel
theorem d_R_blockFrom_34 : decode b_R_blockFrom 34 = .ok (.iaload, 1) := by decide +kernel
theorem d_R_blockFrom_35 : decode b_R_blockFrom 35 = .ok (.ifCond .ne 5, 3) := by decide +kernel
theorem d_R_blockFrom_38 : decode b_R_blockFrom 38 = .ok (.iload_n 3, 1) := by decide +kernel
theorem d_R_blockFrom_39 : decode b_R_blockFrom 39 = .ok (.ireturn, 1) := by decide +kernel
theorem d_R_blockFrom_40 : decode b_R_blockFrom 40 = .ok (.iinc 2 1, 3) := by decide +kernel
theorem d_R_blockFrom_43 : decode b_R_blockFrom 43 = .ok (.goto (-41), 3) := by decide +kernel
theorem d_R_blockFrom_46 : decode b_R_blockFrom 46 = .ok (.iconst (-1), 1) := by decide +kernel
theorem d_R_blockFrom_47 : decode b_R_blockFrom 47 = .ok (.ireturn, 1) := by decide +kernel
abbrev b_R_blockFor : ByteArray := prog_4_method_26_code
abbrev y_R_blockFor : MethodName := ⟨"OrderedVolumeModel", "blockFor", "(II)I"⟩
abbrev o_R_blockFor : Cond := .code y_R_blockFor b_R_blockFor 4 (some .int)
abbrev rm_R_blockFor : Room := { frames := 2, cells := 0, slots := 0, locals := 43 }
theorem d_R_blockFor_0 : decode b_R_blockFor 0 = .ok (.iload_n 2, 1) := by decide +kernel
theorem d_R_blockFor_1 : decode b_R_blockFor 1 = .ok (.ifCond .le 18, 3) := by decide +kernel
theorem d_R_blockFor_4 : decode b_R_blockFor 4 = .ok (.aload_n 0, 1) := by decide +kernel
theorem d_R_blockFor_5 : decode b_R_blockFor 5 = .ok (.getfield 7, 3) := by decide +kernel
theorem d_R_blockFor_8 : decode b_R_blockFor 8 = .ok (.iload_n 1, 1) := by decide +kernel
theorem d_R_blockFor_9 : decode b_R_blockFor 9 = .ok (.iconst 1, 1) := by decide +kernel
theorem d_R_blockFor_10 : decode b_R_blockFor 10 = .ok (.iload_n 2, 1) := by decide +kernel
theorem d_R_blockFor_11 : decode b_R_blockFor 11 = .ok (.iadd, 1) := by decide +kernel
theorem d_R_blockFor_12 : decode b_R_blockFor 12 = .ok (.invokestatic 44, 3) := by decide +kernel
theorem d_R_blockFor_15 : decode b_R_blockFor 15 = .ok (.iaload, 1) := by decide +kernel
theorem d_R_blockFor_16 : decode b_R_blockFor 16 = .ok (.goto 4, 3) := by decide +kernel
theorem d_R_blockFor_19 : decode b_R_blockFor 19 = .ok (.iconst 0, 1) := by decide +kernel
theorem d_R_blockFor_20 : decode b_R_blockFor 20 = .ok (.istore_n 3, 1) := by decide +kernel
theorem d_R_blockFor_21 : decode b_R_blockFor 21 = .ok (.iload_n 3, 1) := by decide +kernel
theorem d_R_blockFor_22 : decode b_R_blockFor 22 = .ok (.ifCond .eq 30, 3) := by decide +kernel
theorem d_R_blockFor_25 : decode b_R_blockFor 25 = .ok (.iload_n 3, 1) := by decide +kernel
theorem d_R_blockFor_26 : decode b_R_blockFor 26 = .ok (.bipush 12, 2) := by decide +kernel
theorem d_R_blockFor_28 : decode b_R_blockFor 28 = .ok (.irem, 1) := by decide +kernel
theorem d_R_blockFor_29 : decode b_R_blockFor 29 = .ok (.bipush 11, 2) := by decide +kernel
theorem d_R_blockFor_31 : decode b_R_blockFor 31 = .ok (.if_icmp .ge 21, 3) := by decide +kernel
theorem d_R_blockFor_34 : decode b_R_blockFor 34 = .ok (.aload_n 0, 1) := by decide +kernel
theorem d_R_blockFor_35 : decode b_R_blockFor 35 = .ok (.getfield 7, 3) := by decide +kernel
theorem d_R_blockFor_38 : decode b_R_blockFor 38 = .ok (.iload_n 3, 1) := by decide +kernel
theorem d_R_blockFor_39 : decode b_R_blockFor 39 = .ok (.iconst 1, 1) := by decide +kernel
theorem d_R_blockFor_40 : decode b_R_blockFor 40 = .ok (.iadd, 1) := by decide +kernel
theorem d_R_blockFor_41 : decode b_R_blockFor 41 = .ok (.invokestatic 52, 3) := by decide +kernel
theorem d_R_blockFor_44 : decode b_R_blockFor 44 = .ok (.iaload, 1) := by decide +kernel
theorem d_R_blockFor_45 : decode b_R_blockFor 45 = .ok (.ifCond .ne 7, 3) := by decide +kernel
theorem d_R_blockFor_48 : decode b_R_blockFor 48 = .ok (.iload_n 3, 1) := by decide +kernel
theorem d_R_blockFor_49 : decode b_R_blockFor 49 = .ok (.iconst 1, 1) := by decide +kernel
theorem d_R_blockFor_50 : decode b_R_blockFor 50 = .ok (.iadd, 1) := by decide +kernel
theorem d_R_blockFor_51 : decode b_R_blockFor 51 = .ok (.ireturn, 1) := by decide +kernel
theorem d_R_blockFor_52 : decode b_R_blockFor 52 = .ok (.aload_n 0, 1) := by decide +kernel
theorem d_R_blockFor_53 : decode b_R_blockFor 53 = .ok (.iload_n 1, 1) := by decide +kernel
theorem d_R_blockFor_54 : decode b_R_blockFor 54 = .ok (.bipush 6, 2) := by decide +kernel
theorem d_R_blockFor_56 : decode b_R_blockFor 56 = .ok (.idiv, 1) := by decide +kernel
theorem d_R_blockFor_57 : decode b_R_blockFor 57 = .ok (.invokevirtual 99, 3) := by decide +kernel
theorem d_R_blockFor_60 : decode b_R_blockFor 60 = .ok (.ireturn, 1) := by decide +kernel
abbrev b_R_within : ByteArray := prog_4_method_7_code
abbrev y_R_within : MethodName := ⟨"OrderedVolumeModel", "within", "(II)Z"⟩
abbrev o_R_within : Cond := .code y_R_within b_R_within 3 (some .boolean)
abbrev rm_R_within : Room := { frames := 1, cells := 0, slots := 0, locals := 20 }
theorem d_R_within_0 : decode b_R_within 0 = .ok (.iload_n 1, 1) := by decide +kernel
theorem d_R_within_1 : decode b_R_within 1 = .ok (.ifCond .lt 25, 3) := by decide +kernel
theorem d_R_within_4 : decode b_R_within 4 = .ok (.iload_n 1, 1) := by decide +kernel
theorem d_R_within_5 : decode b_R_within 5 = .ok (.bipush 36, 2) := by decide +kernel
theorem d_R_within_7 : decode b_R_within 7 = .ok (.if_icmp .ge 19, 3) := by decide +kernel
theorem d_R_within_10 : decode b_R_within 10 = .ok (.iload_n 2, 1) := by decide +kernel
theorem d_R_within_11 : decode b_R_within 11 = .ok (.ifCond .lt 15, 3) := by decide +kernel
theorem d_R_within_14 : decode b_R_within 14 = .ok (.iload_n 2, 1) := by decide +kernel
theorem d_R_within_15 : decode b_R_within 15 = .ok (.iload_n 1, 1) := by decide +kernel
theorem d_R_within_16 : decode b_R_within 16 = .ok (.invokestatic 55, 3) := by decide +kernel
theorem d_R_within_19 : decode b_R_within 19 = .ok (.if_icmp .ge 7, 3) := by decide +kernel
theorem d_R_within_22 : decode b_R_within 22 = .ok (.iconst 1, 1) := by decide +kernel
theorem d_R_within_23 : decode b_R_within 23 = .ok (.goto 4, 3) := by decide +kernel
theorem d_R_within_26 : decode b_R_within 26 = .ok (.iconst 0, 1) := by decide +kernel
theorem d_R_within_27 : decode b_R_within 27 = .ok (.ireturn, 1) := by decide +kernel
abbrev b_R_cached : ByteArray := prog_4_method_53_code
abbrev y_R_cached : MethodName := ⟨"OrderedVolumeModel", "cached", "(II)I"⟩
abbrev o_R_cached : Cond := .code y_R_cached b_R_cached 3 (some .int)
abbrev rm_R_cached : Room := { frames := 2, cells := 0, slots := 0, locals := 42 }
theorem d_R_cached_0 : decode b_R_cached 0 = .ok (.aload_n 0, 1) := by decide +kernel
theorem d_R_cached_1 : decode b_R_cached 1 = .ok (.iload_n 1, 1) := by decide +kernel
theorem d_R_cached_2 : decode b_R_cached 2 = .ok (.iload_n 2, 1) := by decide +kernel
theorem d_R_cached_3 : decode b_R_cached 3 = .ok (.invokevirtual 179, 3) := by decide +kernel
theorem d_R_cached_6 : decode b_R_cached 6 = .ok (.ifCond .eq 17, 3) := by decide +kernel
theorem d_R_cached_9 : decode b_R_cached 9 = .ok (.aload_n 0, 1) := by decide +kernel
theorem d_R_cached_10 : decode b_R_cached 10 = .ok (.getfield 7, 3) := by decide +kernel
theorem d_R_cached_13 : decode b_R_cached 13 = .ok (.bipush 30, 2) := by decide +kernel
theorem d_R_cached_15 : decode b_R_cached 15 = .ok (.iload_n 1, 1) := by decide +kernel
theorem d_R_cached_16 : decode b_R_cached 16 = .ok (.imul, 1) := by decide +kernel
theorem d_R_cached_17 : decode b_R_cached 17 = .ok (.iload_n 2, 1) := by decide +kernel
theorem d_R_cached_18 : decode b_R_cached 18 = .ok (.iadd, 1) := by decide +kernel
theorem d_R_cached_19 : decode b_R_cached 19 = .ok (.iaload, 1) := by decide +kernel
theorem d_R_cached_20 : decode b_R_cached 20 = .ok (.goto 4, 3) := by decide +kernel
theorem d_R_cached_23 : decode b_R_cached 23 = .ok (.iconst 0, 1) := by decide +kernel
theorem d_R_cached_24 : decode b_R_cached 24 = .ok (.ireturn, 1) := by decide +kernel
abbrev b_R_seen : ByteArray := prog_4_method_6_code
abbrev y_R_seen : MethodName := ⟨"OrderedVolumeModel", "seen", "(II)I"⟩
abbrev o_R_seen : Cond := .code y_R_seen b_R_seen 3 (some .int)
abbrev rm_R_seen : Room := { frames := 0, cells := 0, slots := 0, locals := 0 }
theorem d_R_seen_0 : decode b_R_seen 0 = .ok (.aload_n 0, 1) := by decide +kernel
theorem d_R_seen_1 : decode b_R_seen 1 = .ok (.getfield 16, 3) := by decide +kernel
theorem d_R_seen_4 : decode b_R_seen 4 = .ok (.iload_n 1, 1) := by decide +kernel
theorem d_R_seen_5 : decode b_R_seen 5 = .ok (.baload, 1) := by decide +kernel
theorem d_R_seen_6 : decode b_R_seen 6 = .ok (.ifCond .eq 7, 3) := by decide +kernel
theorem d_R_seen_9 : decode b_R_seen 9 = .ok (.iconst 0, 1) := by decide +kernel
theorem d_R_seen_10 : decode b_R_seen 10 = .ok (.goto 14, 3) := by decide +kernel
theorem d_R_seen_13 : decode b_R_seen 13 = .ok (.aload_n 0, 1) := by decide +kernel
theorem d_R_seen_14 : decode b_R_seen 14 = .ok (.getfield 13, 3) := by decide +kernel
theorem d_R_seen_17 : decode b_R_seen 17 = .ok (.bipush 30, 2) := by decide +kernel
theorem d_R_seen_19 : decode b_R_seen 19 = .ok (.iload_n 1, 1) := by decide +kernel
theorem d_R_seen_20 : decode b_R_seen 20 = .ok (.imul, 1) := by decide +kernel
theorem d_R_seen_21 : decode b_R_seen 21 = .ok (.iload_n 2, 1) := by decide +kernel
theorem d_R_seen_22 : decode b_R_seen 22 = .ok (.iadd, 1) := by decide +kernel
theorem d_R_seen_23 : decode b_R_seen 23 = .ok (.iaload, 1) := by decide +kernel
theorem d_R_seen_24 : decode b_R_seen 24 = .ok (.ireturn, 1) := by decide +kernel
abbrev b_R_drop : ByteArray := prog_4_method_18_code
abbrev y_R_drop : MethodName := ⟨"OrderedVolumeModel", "drop", "(II)I"⟩
abbrev o_R_drop : Cond := .code y_R_drop b_R_drop 4 (some .int)
abbrev rm_R_drop : Room := { frames := 1, cells := 0, slots := 0, locals := 21 }
theorem d_R_drop_0 : decode b_R_drop 0 = .ok (.aload_n 0, 1) := by decide +kernel
theorem d_R_drop_1 : decode b_R_drop 1 = .ok (.getfield 7, 3) := by decide +kernel
theorem d_R_drop_4 : decode b_R_drop 4 = .ok (.iload_n 1, 1) := by decide +kernel
theorem d_R_drop_5 : decode b_R_drop 5 = .ok (.iconst 2, 1) := by decide +kernel
theorem d_R_drop_6 : decode b_R_drop 6 = .ok (.iload_n 2, 1) := by decide +kernel
theorem d_R_drop_7 : decode b_R_drop 7 = .ok (.iadd, 1) := by decide +kernel
theorem d_R_drop_8 : decode b_R_drop 8 = .ok (.invokestatic 44, 3) := by decide +kernel
theorem d_R_drop_11 : decode b_R_drop 11 = .ok (.iaload, 1) := by decide +kernel
theorem d_R_drop_12 : decode b_R_drop 12 = .ok (.istore_n 3, 1) := by decide +kernel
theorem d_R_drop_13 : decode b_R_drop 13 = .ok (.iload_n 3, 1) := by decide +kernel
theorem d_R_drop_14 : decode b_R_drop 14 = .ok (.ifCond .ne 5, 3) := by decide +kernel
theorem d_R_drop_17 : decode b_R_drop 17 = .ok (.iconst 0, 1) := by decide +kernel
theorem d_R_drop_18 : decode b_R_drop 18 = .ok (.ireturn, 1) := by decide +kernel
theorem d_R_drop_19 : decode b_R_drop 19 = .ok (.aload_n 0, 1) := by decide +kernel
theorem d_R_drop_20 : decode b_R_drop 20 = .ok (.getfield 23, 3) := by decide +kernel
theorem d_R_drop_23 : decode b_R_drop 23 = .ok (.iload_n 3, 1) := by decide +kernel
theorem d_R_drop_24 : decode b_R_drop 24 = .ok (.aload_n 0, 1) := by decide +kernel
theorem d_R_drop_25 : decode b_R_drop 25 = .ok (.getfield 7, 3) := by decide +kernel
theorem d_R_drop_28 : decode b_R_drop 28 = .ok (.iload_n 1, 1) := by decide +kernel
theorem d_R_drop_29 : decode b_R_drop 29 = .ok (.iconst 0, 1) := by decide +kernel
theorem d_R_drop_30 : decode b_R_drop 30 = .ok (.invokestatic 44, 3) := by decide +kernel
theorem d_R_drop_33 : decode b_R_drop 33 = .ok (.iaload, 1) := by decide +kernel
theorem d_R_drop_34 : decode b_R_drop 34 = .ok (.iconst 2, 1) := by decide +kernel
theorem d_R_drop_35 : decode b_R_drop 35 = .ok (.if_icmp .ne 7, 3) := by decide +kernel
theorem d_R_drop_38 : decode b_R_drop 38 = .ok (.iconst 2, 1) := by decide +kernel
theorem d_R_drop_39 : decode b_R_drop 39 = .ok (.goto 4, 3) := by decide +kernel
theorem d_R_drop_42 : decode b_R_drop 42 = .ok (.iconst 1, 1) := by decide +kernel
theorem d_R_drop_43 : decode b_R_drop 43 = .ok (.iastore, 1) := by decide +kernel
theorem d_R_drop_44 : decode b_R_drop 44 = .ok (.aload_n 0, 1) := by decide +kernel
theorem d_R_drop_45 : decode b_R_drop 45 = .ok (.getfield 7, 3) := by decide +kernel
theorem d_R_drop_48 : decode b_R_drop 48 = .ok (.iload_n 1, 1) := by decide +kernel
theorem d_R_drop_49 : decode b_R_drop 49 = .ok (.iconst 2, 1) := by decide +kernel
theorem d_R_drop_50 : decode b_R_drop 50 = .ok (.iload_n 2, 1) := by decide +kernel
theorem d_R_drop_51 : decode b_R_drop 51 = .ok (.iadd, 1) := by decide +kernel
theorem d_R_drop_52 : decode b_R_drop 52 = .ok (.invokestatic 44, 3) := by decide +kernel
theorem d_R_drop_55 : decode b_R_drop 55 = .ok (.iconst 0, 1) := by decide +kernel
theorem d_R_drop_56 : decode b_R_drop 56 = .ok (.iastore, 1) := by decide +kernel
theorem d_R_drop_57 : decode b_R_drop 57 = .ok (.iconst 1, 1) := by decide +kernel
theorem d_R_drop_58 : decode b_R_drop 58 = .ok (.ireturn, 1) := by decide +kernel
abbrev b_R_fall : ByteArray := prog_4_method_17_code
abbrev y_R_fall : MethodName := ⟨"OrderedVolumeModel", "fall", "(I)V"⟩
abbrev o_R_fall : Cond := .code y_R_fall b_R_fall 3 none
abbrev rm_R_fall : Room := { frames := 2, cells := 0, slots := 0, locals := 44 }
theorem d_R_fall_0 : decode b_R_fall 0 = .ok (.aload_n 0, 1) := by decide +kernel
theorem d_R_fall_1 : decode b_R_fall 1 = .ok (.getfield 7, 3) := by decide +kernel
theorem d_R_fall_4 : decode b_R_fall 4 = .ok (.iload_n 1, 1) := by decide +kernel
theorem d_R_fall_5 : decode b_R_fall 5 = .ok (.iconst 1, 1) := by decide +kernel
theorem d_R_fall_6 : decode b_R_fall 6 = .ok (.invokestatic 44, 3) := by decide +kernel
theorem d_R_fall_9 : decode b_R_fall 9 = .ok (.dup2, 1) := by decide +kernel
theorem d_R_fall_10 : decode b_R_fall 10 = .ok (.iaload, 1) := by decide +kernel
theorem d_R_fall_11 : decode b_R_fall 11 = .ok (.iconst 1, 1) := by decide +kernel
theorem d_R_fall_12 : decode b_R_fall 12 = .ok (.isub, 1) := by decide +kernel
theorem d_R_fall_13 : decode b_R_fall 13 = .ok (.iastore, 1) := by decide +kernel
theorem d_R_fall_14 : decode b_R_fall 14 = .ok (.aload_n 0, 1) := by decide +kernel
theorem d_R_fall_15 : decode b_R_fall 15 = .ok (.getfield 7, 3) := by decide +kernel
theorem d_R_fall_18 : decode b_R_fall 18 = .ok (.iload_n 1, 1) := by decide +kernel
theorem d_R_fall_19 : decode b_R_fall 19 = .ok (.iconst 1, 1) := by decide +kernel
theorem d_R_fall_20 : decode b_R_fall 20 = .ok (.invokestatic 44, 3) := by decide +kernel
theorem d_R_fall_23 : decode b_R_fall 23 = .ok (.iaload, 1) := by decide +kernel
theorem d_R_fall_24 : decode b_R_fall 24 = .ok (.ifCond .eq 4, 3) := by decide +kernel
theorem d_R_fall_27 : decode b_R_fall 27 = .ok (.return_, 1) := by decide +kernel
theorem d_R_fall_28 : decode b_R_fall 28 = .ok (.iconst 0, 1) := by decide +kernel
theorem d_R_fall_29 : decode b_R_fall 29 = .ok (.istore_n 2, 1) := by decide +kernel
theorem d_R_fall_30 : decode b_R_fall 30 = .ok (.iload_n 2, 1) := by decide +kernel
theorem d_R_fall_31 : decode b_R_fall 31 = .ok (.iconst 3, 1) := by decide +kernel
theorem d_R_fall_32 : decode b_R_fall 32 = .ok (.if_icmp .ge 16, 3) := by decide +kernel
theorem d_R_fall_35 : decode b_R_fall 35 = .ok (.aload_n 0, 1) := by decide +kernel
theorem d_R_fall_36 : decode b_R_fall 36 = .ok (.iload_n 1, 1) := by decide +kernel
theorem d_R_fall_37 : decode b_R_fall 37 = .ok (.iload_n 2, 1) := by decide +kernel
theorem d_R_fall_38 : decode b_R_fall 38 = .ok (.invokevirtual 82, 3) := by decide +kernel
theorem d_R_fall_41 : decode b_R_fall 41 = .ok (.pop, 1) := by decide +kernel
theorem d_R_fall_42 : decode b_R_fall 42 = .ok (.iinc 2 1, 3) := by decide +kernel
theorem d_R_fall_45 : decode b_R_fall 45 = .ok (.goto (-15), 3) := by decide +kernel
theorem d_R_fall_48 : decode b_R_fall 48 = .ok (.aload_n 0, 1) := by decide +kernel
theorem d_R_fall_49 : decode b_R_fall 49 = .ok (.getfield 7, 3) := by decide +kernel
theorem d_R_fall_52 : decode b_R_fall 52 = .ok (.iload_n 1, 1) := by decide +kernel
theorem d_R_fall_53 : decode b_R_fall 53 = .ok (.iconst 0, 1) := by decide +kernel
theorem d_R_fall_54 : decode b_R_fall 54 = .ok (.invokestatic 44, 3) := by decide +kernel
theorem d_R_fall_57 : decode b_R_fall 57 = .ok (.iconst 0, 1) := by decide +kernel
theorem d_R_fall_58 : decode b_R_fall 58 = .ok (.iastore, 1) := by decide +kernel
theorem d_R_fall_59 : decode b_R_fall 59 = .ok (.aload_n 0, 1) := by decide +kernel
theorem d_R_fall_60 : decode b_R_fall 60 = .ok (.getfield 26, 3) := by decide +kernel
theorem d_R_fall_63 : decode b_R_fall 63 = .ok (.iload_n 1, 1) := by decide +kernel
theorem d_R_fall_64 : decode b_R_fall 64 = .ok (.iconst 1, 1) := by decide +kernel
theorem d_R_fall_65 : decode b_R_fall 65 = .ok (.bastore, 1) := by decide +kernel
theorem d_R_fall_66 : decode b_R_fall 66 = .ok (.return_, 1) := by decide +kernel
abbrev b_R_count : ByteArray := prog_4_method_22_code
abbrev y_R_count : MethodName := ⟨"OrderedVolumeModel", "count", "()Z"⟩
abbrev o_R_count : Cond := .code y_R_count b_R_count 4 (some .boolean)
abbrev rm_R_count : Room := { frames := 3, cells := 0, slots := 0, locals := 66 }
theorem d_R_count_0 : decode b_R_count 0 = .ok (.iconst 0, 1) := by decide +kernel
theorem d_R_count_1 : decode b_R_count 1 = .ok (.istore_n 1, 1) := by decide +kernel
theorem d_R_count_2 : decode b_R_count 2 = .ok (.iload_n 1, 1) := by decide +kernel
theorem d_R_count_3 : decode b_R_count 3 = .ok (.bipush 18, 2) := by decide +kernel
theorem d_R_count_5 : decode b_R_count 5 = .ok (.if_icmp .ge 16, 3) := by decide +kernel
theorem d_R_count_8 : decode b_R_count 8 = .ok (.aload_n 0, 1) := by decide +kernel
theorem d_R_count_9 : decode b_R_count 9 = .ok (.getfield 32, 3) := by decide +kernel
theorem d_R_count_12 : decode b_R_count 12 = .ok (.iload_n 1, 1) := by decide +kernel
theorem d_R_count_13 : decode b_R_count 13 = .ok (.iconst 0, 1) := by decide +kernel
theorem d_R_count_14 : decode b_R_count 14 = .ok (.iastore, 1) := by decide +kernel
theorem d_R_count_15 : decode b_R_count 15 = .ok (.iinc 1 1, 3) := by decide +kernel
theorem d_R_count_18 : decode b_R_count 18 = .ok (.goto (-16), 3) := by decide +kernel
theorem d_R_count_21 : decode b_R_count 21 = .ok (.iconst 0, 1) := by decide +kernel
theorem d_R_count_22 : decode b_R_count 22 = .ok (.istore_n 1, 1) := by decide +kernel
theorem d_R_count_23 : decode b_R_count 23 = .ok (.iload_n 1, 1) := by decide +kernel
theorem d_R_count_24 : decode b_R_count 24 = .ok (.bipush 36, 2) := by decide +kernel
theorem d_R_count_26 : decode b_R_count 26 = .ok (.if_icmp .ge 101, 3) := by decide +kernel
theorem d_R_count_29 : decode b_R_count 29 = .ok (.iload_n 1, 1) := by decide +kernel
theorem d_R_count_30 : decode b_R_count 30 = .ok (.bipush 12, 2) := by decide +kernel
theorem d_R_count_32 : decode b_R_count 32 = .ok (.irem, 1) := by decide +kernel
theorem d_R_count_33 : decode b_R_count 33 = .ok (.iconst 1, 1) := by decide +kernel
theorem d_R_count_34 : decode b_R_count 34 = .ok (.if_icmp .le 26, 3) := by decide +kernel
theorem d_R_count_37 : decode b_R_count 37 = .ok (.aload_n 0, 1) := by decide +kernel
theorem d_R_count_38 : decode b_R_count 38 = .ok (.getfield 23, 3) := by decide +kernel
theorem d_R_count_41 : decode b_R_count 41 = .ok (.iload_n 1, 1) := by decide +kernel
theorem d_R_count_42 : decode b_R_count 42 = .ok (.iaload, 1) := by decide +kernel
theorem d_R_count_43 : decode b_R_count 43 = .ok (.iconst 2, 1) := by decide +kernel
theorem d_R_count_44 : decode b_R_count 44 = .ok (.if_icmp .eq 12, 3) := by decide +kernel
theorem d_R_count_47 : decode b_R_count 47 = .ok (.aload_n 0, 1) := by decide +kernel
theorem d_R_count_48 : decode b_R_count 48 = .ok (.iload_n 1, 1) := by decide +kernel
theorem d_R_count_49 : decode b_R_count 49 = .ok (.invokevirtual 93, 3) := by decide +kernel
theorem d_R_count_52 : decode b_R_count 52 = .ok (.iconst 2, 1) := by decide +kernel
theorem d_R_count_53 : decode b_R_count 53 = .ok (.if_icmp .ne 7, 3) := by decide +kernel
theorem d_R_count_56 : decode b_R_count 56 = .ok (.iconst 1, 1) := by decide +kernel
theorem d_R_count_57 : decode b_R_count 57 = .ok (.goto 4, 3) := by decide +kernel
theorem d_R_count_60 : decode b_R_count 60 = .ok (.iconst 0, 1) := by decide +kernel
theorem d_R_count_61 : decode b_R_count 61 = .ok (.istore_n 2, 1) := by decide +kernel
theorem d_R_count_62 : decode b_R_count 62 = .ok (.iconst 0, 1) := by decide +kernel
theorem d_R_count_63 : decode b_R_count 63 = .ok (.istore_n 3, 1) := by decide +kernel
theorem d_R_count_64 : decode b_R_count 64 = .ok (.iload_n 3, 1) := by decide +kernel
theorem d_R_count_65 : decode b_R_count 65 = .ok (.bipush 8, 2) := by decide +kernel
theorem d_R_count_67 : decode b_R_count 67 = .ok (.if_icmp .ge 54, 3) := by decide +kernel
theorem d_R_count_70 : decode b_R_count 70 = .ok (.iload_n 2, 1) := by decide +kernel
theorem d_R_count_71 : decode b_R_count 71 = .ok (.ifCond .eq 50, 3) := by decide +kernel
theorem d_R_count_74 : decode b_R_count 74 = .ok (.aload_n 0, 1) := by decide +kernel
theorem d_R_count_75 : decode b_R_count 75 = .ok (.getfield 7, 3) := by decide +kernel
theorem d_R_count_78 : decode b_R_count 78 = .ok (.bipush 30, 2) := by decide +kernel
theorem d_R_count_80 : decode b_R_count 80 = .ok (.iload_n 1, 1) := by decide +kernel
theorem d_R_count_81 : decode b_R_count 81 = .ok (.imul, 1) := by decide +kernel
theorem d_R_count_82 : decode b_R_count 82 = .ok (.iload_n 3, 1) := by decide +kernel
theorem d_R_count_83 : decode b_R_count 83 = .ok (.iadd, 1) := by decide +kernel
theorem d_R_count_84 : decode b_R_count 84 = .ok (.iaload, 1) := by decide +kernel
theorem d_R_count_85 : decode b_R_count 85 = .ok (.ifCond .ne 30, 3) := by decide +kernel
theorem d_R_count_88 : decode b_R_count 88 = .ok (.aload_n 0, 1) := by decide +kernel
theorem d_R_count_89 : decode b_R_count 89 = .ok (.iload_n 1, 1) := by decide +kernel
theorem d_R_count_90 : decode b_R_count 90 = .ok (.iload_n 3, 1) := by decide +kernel
theorem d_R_count_91 : decode b_R_count 91 = .ok (.invokevirtual 66, 3) := by decide +kernel
theorem d_R_count_94 : decode b_R_count 94 = .ok (.ifCond .eq 21, 3) := by decide +kernel
theorem d_R_count_97 : decode b_R_count 97 = .ok (.aload_n 0, 1) := by decide +kernel
theorem d_R_count_98 : decode b_R_count 98 = .ok (.getfield 32, 3) := by decide +kernel
theorem d_R_count_101 : decode b_R_count 101 = .ok (.aload_n 0, 1) := by decide +kernel
theorem d_R_count_102 : decode b_R_count 102 = .ok (.iload_n 1, 1) := by decide +kernel
theorem d_R_count_103 : decode b_R_count 103 = .ok (.iload_n 3, 1) := by decide +kernel
theorem d_R_count_104 : decode b_R_count 104 = .ok (.invokevirtual 66, 3) := by decide +kernel
theorem d_R_count_107 : decode b_R_count 107 = .ok (.bipush 32, 2) := by decide +kernel
theorem d_R_count_109 : decode b_R_count 109 = .ok (.irem, 1) := by decide +kernel
theorem d_R_count_110 : decode b_R_count 110 = .ok (.dup2, 1) := by decide +kernel
theorem d_R_count_111 : decode b_R_count 111 = .ok (.iaload, 1) := by decide +kernel
theorem d_R_count_112 : decode b_R_count 112 = .ok (.iconst 1, 1) := by decide +kernel
theorem d_R_count_113 : decode b_R_count 113 = .ok (.iadd, 1) := by decide +kernel
theorem d_R_count_114 : decode b_R_count 114 = .ok (.iastore, 1) := by decide +kernel
theorem d_R_count_115 : decode b_R_count 115 = .ok (.iinc 3 1, 3) := by decide +kernel
theorem d_R_count_118 : decode b_R_count 118 = .ok (.goto (-54), 3) := by decide +kernel
theorem d_R_count_121 : decode b_R_count 121 = .ok (.iinc 1 1, 3) := by decide +kernel
theorem d_R_count_124 : decode b_R_count 124 = .ok (.goto (-101), 3) := by decide +kernel
theorem d_R_count_127 : decode b_R_count 127 = .ok (.iconst 0, 1) := by decide +kernel
theorem d_R_count_128 : decode b_R_count 128 = .ok (.istore_n 1, 1) := by decide +kernel
theorem d_R_count_129 : decode b_R_count 129 = .ok (.iconst 0, 1) := by decide +kernel
theorem d_R_count_130 : decode b_R_count 130 = .ok (.istore_n 2, 1) := by decide +kernel
theorem d_R_count_131 : decode b_R_count 131 = .ok (.iload_n 2, 1) := by decide +kernel
theorem d_R_count_132 : decode b_R_count 132 = .ok (.bipush 18, 2) := by decide +kernel
theorem d_R_count_134 : decode b_R_count 134 = .ok (.if_icmp .ge 51, 3) := by decide +kernel
theorem d_R_count_137 : decode b_R_count 137 = .ok (.aload_n 0, 1) := by decide +kernel
theorem d_R_count_138 : decode b_R_count 138 = .ok (.getfield 29, 3) := by decide +kernel
theorem d_R_count_141 : decode b_R_count 141 = .ok (.iload_n 2, 1) := by decide +kernel
theorem d_R_count_142 : decode b_R_count 142 = .ok (.iaload, 1) := by decide +kernel
theorem d_R_count_143 : decode b_R_count 143 = .ok (.istore_n 3, 1) := by decide +kernel
theorem d_R_count_144 : decode b_R_count 144 = .ok (.iload_n 3, 1) := by decide +kernel
theorem d_R_count_145 : decode b_R_count 145 = .ok (.aload_n 0, 1) := by decide +kernel
theorem d_R_count_146 : decode b_R_count 146 = .ok (.getfield 32, 3) := by decide +kernel
theorem d_R_count_149 : decode b_R_count 149 = .ok (.iload_n 2, 1) := by decide +kernel
theorem d_R_count_150 : decode b_R_count 150 = .ok (.iaload, 1) := by decide +kernel
theorem d_R_count_151 : decode b_R_count 151 = .ok (.if_icmp .le 16, 3) := by decide +kernel
theorem d_R_count_154 : decode b_R_count 154 = .ok (.aload_n 0, 1) := by decide +kernel
theorem d_R_count_155 : decode b_R_count 155 = .ok (.iload_n 2, 1) := by decide +kernel
theorem d_R_count_156 : decode b_R_count 156 = .ok (.invokevirtual 75, 3) := by decide +kernel
theorem d_R_count_159 : decode b_R_count 159 = .ok (.iconst 1, 1) := by decide +kernel
theorem d_R_count_160 : decode b_R_count 160 = .ok (.istore_n 1, 1) := by decide +kernel
theorem d_R_count_161 : decode b_R_count 161 = .ok (.iinc 3 (-1), 3) := by decide +kernel
theorem d_R_count_164 : decode b_R_count 164 = .ok (.goto (-20), 3) := by decide +kernel
theorem d_R_count_167 : decode b_R_count 167 = .ok (.aload_n 0, 1) := by decide +kernel
theorem d_R_count_168 : decode b_R_count 168 = .ok (.getfield 29, 3) := by decide +kernel
theorem d_R_count_171 : decode b_R_count 171 = .ok (.iload_n 2, 1) := by decide +kernel
theorem d_R_count_172 : decode b_R_count 172 = .ok (.aload_n 0, 1) := by decide +kernel
theorem d_R_count_173 : decode b_R_count 173 = .ok (.getfield 32, 3) := by decide +kernel
theorem d_R_count_176 : decode b_R_count 176 = .ok (.iload_n 2, 1) := by decide +kernel
theorem d_R_count_177 : decode b_R_count 177 = .ok (.iaload, 1) := by decide +kernel
theorem d_R_count_178 : decode b_R_count 178 = .ok (.iastore, 1) := by decide +kernel
theorem d_R_count_179 : decode b_R_count 179 = .ok (.iinc 2 1, 3) := by decide +kernel
theorem d_R_count_182 : decode b_R_count 182 = .ok (.goto (-51), 3) := by decide +kernel
theorem d_R_count_185 : decode b_R_count 185 = .ok (.iload_n 1, 1) := by decide +kernel
theorem d_R_count_186 : decode b_R_count 186 = .ok (.ireturn, 1) := by decide +kernel
abbrev b_R_crash : ByteArray := prog_4_method_46_code
abbrev y_R_crash : MethodName := ⟨"OrderedVolumeModel", "crash", "()Z"⟩
abbrev o_R_crash : Cond := .code y_R_crash b_R_crash 2 (some .boolean)
abbrev rm_R_crash : Room := { frames := 0, cells := 0, slots := 0, locals := 0 }
theorem d_R_crash_0 : decode b_R_crash 0 = .ok (.aload_n 0, 1) := by decide +kernel
theorem d_R_crash_1 : decode b_R_crash 1 = .ok (.getfield 141, 3) := by decide +kernel
theorem d_R_crash_4 : decode b_R_crash 4 = .ok (.ifCond .eq 5, 3) := by decide +kernel
theorem d_R_crash_7 : decode b_R_crash 7 = .ok (.iconst 0, 1) := by decide +kernel
theorem d_R_crash_8 : decode b_R_crash 8 = .ok (.ireturn, 1) := by decide +kernel
theorem d_R_crash_9 : decode b_R_crash 9 = .ok (.iconst 0, 1) := by decide +kernel
theorem d_R_crash_10 : decode b_R_crash 10 = .ok (.istore_n 1, 1) := by decide +kernel
theorem d_R_crash_11 : decode b_R_crash 11 = .ok (.iload_n 1, 1) := by decide +kernel
theorem d_R_crash_12 : decode b_R_crash 12 = .ok (.sipush 1080, 3) := by decide +kernel
theorem d_R_crash_15 : decode b_R_crash 15 = .ok (.if_icmp .ge 21, 3) := by decide +kernel
theorem d_R_crash_18 : decode b_R_crash 18 = .ok (.aload_n 0, 1) := by decide +kernel
theorem d_R_crash_19 : decode b_R_crash 19 = .ok (.getfield 7, 3) := by decide +kernel
theorem d_R_crash_22 : decode b_R_crash 22 = .ok (.iload_n 1, 1) := by decide +kernel
theorem d_R_crash_23 : decode b_R_crash 23 = .ok (.aload_n 0, 1) := by decide +kernel
theorem d_R_crash_24 : decode b_R_crash 24 = .ok (.getfield 13, 3) := by decide +kernel
theorem d_R_crash_27 : decode b_R_crash 27 = .ok (.iload_n 1, 1) := by decide +kernel
theorem d_R_crash_28 : decode b_R_crash 28 = .ok (.iaload, 1) := by decide +kernel
theorem d_R_crash_29 : decode b_R_crash 29 = .ok (.iastore, 1) := by decide +kernel
theorem d_R_crash_30 : decode b_R_crash 30 = .ok (.iinc 1 1, 3) := by decide +kernel
theorem d_R_crash_33 : decode b_R_crash 33 = .ok (.goto (-22), 3) := by decide +kernel
theorem d_R_crash_36 : decode b_R_crash 36 = .ok (.iconst 0, 1) := by decide +kernel
theorem d_R_crash_37 : decode b_R_crash 37 = .ok (.istore_n 1, 1) := by decide +kernel
theorem d_R_crash_38 : decode b_R_crash 38 = .ok (.iload_n 1, 1) := by decide +kernel
theorem d_R_crash_39 : decode b_R_crash 39 = .ok (.bipush 36, 2) := by decide +kernel
theorem d_R_crash_41 : decode b_R_crash 41 = .ok (.if_icmp .ge 23, 3) := by decide +kernel
theorem d_R_crash_44 : decode b_R_crash 44 = .ok (.aload_n 0, 1) := by decide +kernel
theorem d_R_crash_45 : decode b_R_crash 45 = .ok (.getfield 16, 3) := by decide +kernel
theorem d_R_crash_48 : decode b_R_crash 48 = .ok (.iload_n 1, 1) := by decide +kernel
theorem d_R_crash_49 : decode b_R_crash 49 = .ok (.iconst 0, 1) := by decide +kernel
theorem d_R_crash_50 : decode b_R_crash 50 = .ok (.bastore, 1) := by decide +kernel
theorem d_R_crash_51 : decode b_R_crash 51 = .ok (.aload_n 0, 1) := by decide +kernel
theorem d_R_crash_52 : decode b_R_crash 52 = .ok (.getfield 23, 3) := by decide +kernel
theorem d_R_crash_55 : decode b_R_crash 55 = .ok (.iload_n 1, 1) := by decide +kernel
theorem d_R_crash_56 : decode b_R_crash 56 = .ok (.iconst 0, 1) := by decide +kernel
theorem d_R_crash_57 : decode b_R_crash 57 = .ok (.iastore, 1) := by decide +kernel
theorem d_R_crash_58 : decode b_R_crash 58 = .ok (.iinc 1 1, 3) := by decide +kernel
theorem d_R_crash_61 : decode b_R_crash 61 = .ok (.goto (-23), 3) := by decide +kernel
theorem d_R_crash_64 : decode b_R_crash 64 = .ok (.iconst 0, 1) := by decide +kernel
theorem d_R_crash_65 : decode b_R_crash 65 = .ok (.istore_n 1, 1) := by decide +kernel
theorem d_R_crash_66 : decode b_R_crash 66 = .ok (.iload_n 1, 1) := by decide +kernel
theorem d_R_crash_67 : decode b_R_crash 67 = .ok (.sipush 288, 3) := by decide +kernel
theorem d_R_crash_70 : decode b_R_crash 70 = .ok (.if_icmp .ge 16, 3) := by decide +kernel
theorem d_R_crash_73 : decode b_R_crash 73 = .ok (.aload_n 0, 1) := by decide +kernel
theorem d_R_crash_74 : decode b_R_crash 74 = .ok (.getfield 20, 3) := by decide +kernel
theorem d_R_crash_77 : decode b_R_crash 77 = .ok (.iload_n 1, 1) := by decide +kernel
theorem d_R_crash_78 : decode b_R_crash 78 = .ok (.iconst 0, 1) := by decide +kernel
theorem d_R_crash_79 : decode b_R_crash 79 = .ok (.bastore, 1) := by decide +kernel
theorem d_R_crash_80 : decode b_R_crash 80 = .ok (.iinc 1 1, 3) := by decide +kernel
theorem d_R_crash_83 : decode b_R_crash 83 = .ok (.goto (-17), 3) := by decide +kernel
theorem d_R_crash_86 : decode b_R_crash 86 = .ok (.iconst 0, 1) := by decide +kernel
theorem d_R_crash_87 : decode b_R_crash 87 = .ok (.istore_n 1, 1) := by decide +kernel
theorem d_R_crash_88 : decode b_R_crash 88 = .ok (.iload_n 1, 1) := by decide +kernel
theorem d_R_crash_89 : decode b_R_crash 89 = .ok (.bipush 18, 2) := by decide +kernel
theorem d_R_crash_91 : decode b_R_crash 91 = .ok (.if_icmp .ge 23, 3) := by decide +kernel
theorem d_R_crash_94 : decode b_R_crash 94 = .ok (.aload_n 0, 1) := by decide +kernel
theorem d_R_crash_95 : decode b_R_crash 95 = .ok (.getfield 26, 3) := by decide +kernel
theorem d_R_crash_98 : decode b_R_crash 98 = .ok (.iload_n 1, 1) := by decide +kernel
theorem d_R_crash_99 : decode b_R_crash 99 = .ok (.iconst 0, 1) := by decide +kernel
theorem d_R_crash_100 : decode b_R_crash 100 = .ok (.bastore, 1) := by decide +kernel
theorem d_R_crash_101 : decode b_R_crash 101 = .ok (.aload_n 0, 1) := by decide +kernel
theorem d_R_crash_102 : decode b_R_crash 102 = .ok (.getfield 29, 3) := by decide +kernel
theorem d_R_crash_105 : decode b_R_crash 105 = .ok (.iload_n 1, 1) := by decide +kernel
theorem d_R_crash_106 : decode b_R_crash 106 = .ok (.iconst 0, 1) := by decide +kernel
theorem d_R_crash_107 : decode b_R_crash 107 = .ok (.iastore, 1) := by decide +kernel
theorem d_R_crash_108 : decode b_R_crash 108 = .ok (.iinc 1 1, 3) := by decide +kernel
theorem d_R_crash_111 : decode b_R_crash 111 = .ok (.goto (-23), 3) := by decide +kernel
theorem d_R_crash_114 : decode b_R_crash 114 = .ok (.iconst 1, 1) := by decide +kernel
theorem d_R_crash_115 : decode b_R_crash 115 = .ok (.ireturn, 1) := by decide +kernel
abbrev b_R_isName : ByteArray := prog_4_method_28_code
abbrev y_R_isName : MethodName := ⟨"OrderedVolumeModel", "isName", "(I)Z"⟩
abbrev o_R_isName : Cond := .code y_R_isName b_R_isName 1 (some .boolean)
abbrev rm_R_isName : Room := { frames := 0, cells := 0, slots := 0, locals := 0 }
theorem d_R_isName_0 : decode b_R_isName 0 = .ok (.iload_n 0, 1) := by decide +kernel
theorem d_R_isName_1 : decode b_R_isName 1 = .ok (.iconst 1, 1) := by decide +kernel
theorem d_R_isName_2 : decode b_R_isName 2 = .ok (.if_icmp .lt 14, 3) := by decide +kernel
theorem d_R_isName_5 : decode b_R_isName 5 = .ok (.iload_n 0, 1) := by decide +kernel
theorem d_R_isName_6 : decode b_R_isName 6 = .ok (.sipush 999, 3) := by decide +kernel
theorem d_R_isName_9 : decode b_R_isName 9 = .ok (.if_icmp .gt 7, 3) := by decide +kernel
theorem d_R_isName_12 : decode b_R_isName 12 = .ok (.iconst 1, 1) := by decide +kernel
theorem d_R_isName_13 : decode b_R_isName 13 = .ok (.goto 4, 3) := by decide +kernel
theorem d_R_isName_16 : decode b_R_isName 16 = .ok (.iconst 0, 1) := by decide +kernel
theorem d_R_isName_17 : decode b_R_isName 17 = .ok (.ireturn, 1) := by decide +kernel
abbrev b_R_spread : ByteArray := prog_4_method_10_code
abbrev y_R_spread : MethodName := ⟨"OrderedVolumeModel", "spread", "(ZI[Z)V"⟩
abbrev o_R_spread : Cond := .code y_R_spread b_R_spread 8 none
abbrev rm_R_spread : Room := { frames := 1, cells := 0, slots := 0, locals := 22 }
theorem d_R_spread_0 : decode b_R_spread 0 = .ok (.iload_n 1, 1) := by decide +kernel
theorem d_R_spread_1 : decode b_R_spread 1 = .ok (.ifCond .eq 16, 3) := by decide +kernel
theorem d_R_spread_4 : decode b_R_spread 4 = .ok (.aload_n 0, 1) := by decide +kernel
theorem d_R_spread_5 : decode b_R_spread 5 = .ok (.getfield 13, 3) := by decide +kernel
theorem d_R_spread_8 : decode b_R_spread 8 = .ok (.iload_n 2, 1) := by decide +kernel
theorem d_R_spread_9 : decode b_R_spread 9 = .ok (.iconst 0, 1) := by decide +kernel
theorem d_R_spread_10 : decode b_R_spread 10 = .ok (.invokestatic 44, 3) := by decide +kernel
theorem d_R_spread_13 : decode b_R_spread 13 = .ok (.iaload, 1) := by decide +kernel
theorem d_R_spread_14 : decode b_R_spread 14 = .ok (.goto 13, 3) := by decide +kernel
theorem d_R_spread_17 : decode b_R_spread 17 = .ok (.aload_n 0, 1) := by decide +kernel
theorem d_R_spread_18 : decode b_R_spread 18 = .ok (.getfield 7, 3) := by decide +kernel
theorem d_R_spread_21 : decode b_R_spread 21 = .ok (.iload_n 2, 1) := by decide +kernel
theorem d_R_spread_22 : decode b_R_spread 22 = .ok (.iconst 0, 1) := by decide +kernel
theorem d_R_spread_23 : decode b_R_spread 23 = .ok (.invokestatic 44, 3) := by decide +kernel
theorem d_R_spread_26 : decode b_R_spread 26 = .ok (.iaload, 1) := by decide +kernel
theorem d_R_spread_27 : decode b_R_spread 27 = .ok (.istore 4, 2) := by decide +kernel
theorem d_R_spread_29 : decode b_R_spread 29 = .ok (.iload_n 1, 1) := by decide +kernel
theorem d_R_spread_30 : decode b_R_spread 30 = .ok (.ifCond .eq 16, 3) := by decide +kernel
theorem d_R_spread_33 : decode b_R_spread 33 = .ok (.aload_n 0, 1) := by decide +kernel
theorem d_R_spread_34 : decode b_R_spread 34 = .ok (.getfield 13, 3) := by decide +kernel
theorem d_R_spread_37 : decode b_R_spread 37 = .ok (.iload_n 2, 1) := by decide +kernel
theorem d_R_spread_38 : decode b_R_spread 38 = .ok (.iconst 2, 1) := by decide +kernel
theorem d_R_spread_39 : decode b_R_spread 39 = .ok (.invokestatic 44, 3) := by decide +kernel
theorem d_R_spread_42 : decode b_R_spread 42 = .ok (.iaload, 1) := by decide +kernel
theorem d_R_spread_43 : decode b_R_spread 43 = .ok (.goto 13, 3) := by decide +kernel
theorem d_R_spread_46 : decode b_R_spread 46 = .ok (.aload_n 0, 1) := by decide +kernel
theorem d_R_spread_47 : decode b_R_spread 47 = .ok (.getfield 7, 3) := by decide +kernel
theorem d_R_spread_50 : decode b_R_spread 50 = .ok (.iload_n 2, 1) := by decide +kernel
theorem d_R_spread_51 : decode b_R_spread 51 = .ok (.iconst 2, 1) := by decide +kernel
theorem d_R_spread_52 : decode b_R_spread 52 = .ok (.invokestatic 44, 3) := by decide +kernel
theorem d_R_spread_55 : decode b_R_spread 55 = .ok (.iaload, 1) := by decide +kernel
theorem d_R_spread_56 : decode b_R_spread 56 = .ok (.istore 5, 2) := by decide +kernel
theorem d_R_spread_58 : decode b_R_spread 58 = .ok (.iload 4, 2) := by decide +kernel
theorem d_R_spread_60 : decode b_R_spread 60 = .ok (.iconst 2, 1) := by decide +kernel
theorem d_R_spread_61 : decode b_R_spread 61 = .ok (.if_icmp .ne 8, 3) := by decide +kernel
theorem d_R_spread_64 : decode b_R_spread 64 = .ok (.iload 5, 2) := by decide +kernel
theorem d_R_spread_66 : decode b_R_spread 66 = .ok (.ifCond .ne 4, 3) := by decide +kernel
theorem d_R_spread_69 : decode b_R_spread 69 = .ok (.return_, 1) := by decide +kernel
theorem d_R_spread_70 : decode b_R_spread 70 = .ok (.iconst 0, 1) := by decide +kernel
theorem d_R_spread_71 : decode b_R_spread 71 = .ok (.istore 6, 2) := by decide +kernel
theorem d_R_spread_73 : decode b_R_spread 73 = .ok (.iload 6, 2) := by decide +kernel
theorem d_R_spread_75 : decode b_R_spread 75 = .ok (.bipush 8, 2) := by decide +kernel
theorem d_R_spread_77 : decode b_R_spread 77 = .ok (.if_icmp .ge 52, 3) := by decide +kernel
theorem d_R_spread_80 : decode b_R_spread 80 = .ok (.iload_n 1, 1) := by decide +kernel
theorem d_R_spread_81 : decode b_R_spread 81 = .ok (.ifCond .eq 14, 3) := by decide +kernel
theorem d_R_spread_84 : decode b_R_spread 84 = .ok (.aload_n 0, 1) := by decide +kernel
theorem d_R_spread_85 : decode b_R_spread 85 = .ok (.iload 5, 2) := by decide +kernel
theorem d_R_spread_87 : decode b_R_spread 87 = .ok (.iload 6, 2) := by decide +kernel
theorem d_R_spread_89 : decode b_R_spread 89 = .ok (.invokevirtual 66, 3) := by decide +kernel
theorem d_R_spread_92 : decode b_R_spread 92 = .ok (.goto 16, 3) := by decide +kernel
theorem d_R_spread_95 : decode b_R_spread 95 = .ok (.aload_n 0, 1) := by decide +kernel
theorem d_R_spread_96 : decode b_R_spread 96 = .ok (.getfield 7, 3) := by decide +kernel
theorem d_R_spread_99 : decode b_R_spread 99 = .ok (.bipush 30, 2) := by decide +kernel
theorem d_R_spread_101 : decode b_R_spread 101 = .ok (.iload 5, 2) := by decide +kernel
theorem d_R_spread_103 : decode b_R_spread 103 = .ok (.imul, 1) := by decide +kernel
theorem d_R_spread_104 : decode b_R_spread 104 = .ok (.iload 6, 2) := by decide +kernel
theorem d_R_spread_106 : decode b_R_spread 106 = .ok (.iadd, 1) := by decide +kernel
theorem d_R_spread_107 : decode b_R_spread 107 = .ok (.iaload, 1) := by decide +kernel
theorem d_R_spread_108 : decode b_R_spread 108 = .ok (.istore 7, 2) := by decide +kernel
theorem d_R_spread_110 : decode b_R_spread 110 = .ok (.iload 7, 2) := by decide +kernel
theorem d_R_spread_112 : decode b_R_spread 112 = .ok (.ifCond .eq 11, 3) := by decide +kernel
theorem d_R_spread_115 : decode b_R_spread 115 = .ok (.aload_n 3, 1) := by decide +kernel
theorem d_R_spread_116 : decode b_R_spread 116 = .ok (.iload 7, 2) := by decide +kernel
theorem d_R_spread_118 : decode b_R_spread 118 = .ok (.bipush 32, 2) := by decide +kernel
theorem d_R_spread_120 : decode b_R_spread 120 = .ok (.irem, 1) := by decide +kernel
theorem d_R_spread_121 : decode b_R_spread 121 = .ok (.iconst 1, 1) := by decide +kernel
theorem d_R_spread_122 : decode b_R_spread 122 = .ok (.bastore, 1) := by decide +kernel
theorem d_R_spread_123 : decode b_R_spread 123 = .ok (.iinc 6 1, 3) := by decide +kernel
theorem d_R_spread_126 : decode b_R_spread 126 = .ok (.goto (-53), 3) := by decide +kernel
theorem d_R_spread_129 : decode b_R_spread 129 = .ok (.return_, 1) := by decide +kernel
