abbrev b_S_kind : ByteArray := prog_2_method_15_code
abbrev y_S_kind : MethodName := ⟨"OrderedVolume$Store", "kind", "(I)I"⟩
abbrev o_S_kind : Cond := .code y_S_kind b_S_kind 2 (some .int)
abbrev rm_S_kind : Room := { frames := 0, cells := 0, slots := 0, locals := 0 }
theorem d_S_kind_0 : decode b_S_kind 0 = .ok (.aload_n 0, 1) := by decide +kernel
theorem d_S_kind_1 : decode b_S_kind 1 = .ok (.getfield 15, 3) := by decide +kernel
theorem d_S_kind_4 : decode b_S_kind 4 = .ok (.iload_n 1, 1) := by decide +kernel
theorem d_S_kind_5 : decode b_S_kind 5 = .ok (.iconst 5, 1) := by decide +kernel
theorem d_S_kind_6 : decode b_S_kind 6 = .ok (.imul, 1) := by decide +kernel
theorem d_S_kind_7 : decode b_S_kind 7 = .ok (.iaload, 1) := by decide +kernel
theorem d_S_kind_8 : decode b_S_kind 8 = .ok (.ireturn, 1) := by decide +kernel
abbrev b_S_inodeMark : ByteArray := prog_2_method_11_code
abbrev y_S_inodeMark : MethodName := ⟨"OrderedVolume$Store", "inodeMark", "(I)I"⟩
abbrev o_S_inodeMark : Cond := .code y_S_inodeMark b_S_inodeMark 2 (some .int)
abbrev rm_S_inodeMark : Room := { frames := 0, cells := 0, slots := 0, locals := 0 }
theorem d_S_inodeMark_0 : decode b_S_inodeMark 0 = .ok (.aload_n 0, 1) := by decide +kernel
theorem d_S_inodeMark_1 : decode b_S_inodeMark 1 = .ok (.getfield 9, 3) := by decide +kernel
theorem d_S_inodeMark_4 : decode b_S_inodeMark 4 = .ok (.iload_n 1, 1) := by decide +kernel
theorem d_S_inodeMark_5 : decode b_S_inodeMark 5 = .ok (.bipush 6, 2) := by decide +kernel
theorem d_S_inodeMark_7 : decode b_S_inodeMark 7 = .ok (.idiv, 1) := by decide +kernel
theorem d_S_inodeMark_8 : decode b_S_inodeMark 8 = .ok (.bipush 16, 2) := by decide +kernel
theorem d_S_inodeMark_10 : decode b_S_inodeMark 10 = .ok (.imul, 1) := by decide +kernel
theorem d_S_inodeMark_11 : decode b_S_inodeMark 11 = .ok (.iload_n 1, 1) := by decide +kernel
theorem d_S_inodeMark_12 : decode b_S_inodeMark 12 = .ok (.bipush 6, 2) := by decide +kernel
theorem d_S_inodeMark_14 : decode b_S_inodeMark 14 = .ok (.irem, 1) := by decide +kernel
theorem d_S_inodeMark_15 : decode b_S_inodeMark 15 = .ok (.iadd, 1) := by decide +kernel
theorem d_S_inodeMark_16 : decode b_S_inodeMark 16 = .ok (.iaload, 1) := by decide +kernel
theorem d_S_inodeMark_17 : decode b_S_inodeMark 17 = .ok (.ireturn, 1) := by decide +kernel
abbrev b_V_has : ByteArray := prog_1_method_22_code
abbrev y_V_has : MethodName := ⟨"OrderedVolume", "has", "(II)Z"⟩
abbrev o_V_has : Cond := .code y_V_has b_V_has 2 (some .boolean)
abbrev rm_V_has : Room := { frames := 0, cells := 0, slots := 0, locals := 0 }
theorem d_V_has_0 : decode b_V_has 0 = .ok (.iload_n 0, 1) := by decide +kernel
theorem d_V_has_1 : decode b_V_has 1 = .ok (.iload_n 1, 1) := by decide +kernel
theorem d_V_has_2 : decode b_V_has 2 = .ok (.ishr, 1) := by decide +kernel
theorem d_V_has_3 : decode b_V_has 3 = .ok (.iconst 1, 1) := by decide +kernel
theorem d_V_has_4 : decode b_V_has 4 = .ok (.iand, 1) := by decide +kernel
theorem d_V_has_5 : decode b_V_has 5 = .ok (.iconst 1, 1) := by decide +kernel
theorem d_V_has_6 : decode b_V_has 6 = .ok (.if_icmp .ne 7, 3) := by decide +kernel
theorem d_V_has_9 : decode b_V_has 9 = .ok (.iconst 1, 1) := by decide +kernel
theorem d_V_has_10 : decode b_V_has 10 = .ok (.goto 4, 3) := by decide +kernel
theorem d_V_has_13 : decode b_V_has 13 = .ok (.iconst 0, 1) := by decide +kernel
theorem d_V_has_14 : decode b_V_has 14 = .ok (.ireturn, 1) := by decide +kernel
abbrev b_S_entry : ByteArray := prog_2_method_22_code
abbrev y_S_entry : MethodName := ⟨"OrderedVolume$Store", "entry", "(II)I"⟩
abbrev o_S_entry : Cond := .code y_S_entry b_S_entry 4 (some .int)
abbrev rm_S_entry : Room := { frames := 0, cells := 0, slots := 0, locals := 0 }
theorem d_S_entry_0 : decode b_S_entry 0 = .ok (.aload_n 0, 1) := by decide +kernel
theorem d_S_entry_1 : decode b_S_entry 1 = .ok (.getfield 15, 3) := by decide +kernel
theorem d_S_entry_4 : decode b_S_entry 4 = .ok (.iload_n 1, 1) := by decide +kernel
theorem d_S_entry_5 : decode b_S_entry 5 = .ok (.iconst 5, 1) := by decide +kernel
theorem d_S_entry_6 : decode b_S_entry 6 = .ok (.imul, 1) := by decide +kernel
theorem d_S_entry_7 : decode b_S_entry 7 = .ok (.iaload, 1) := by decide +kernel
theorem d_S_entry_8 : decode b_S_entry 8 = .ok (.iconst 2, 1) := by decide +kernel
theorem d_S_entry_9 : decode b_S_entry 9 = .ok (.if_icmp .ne 16, 3) := by decide +kernel
theorem d_S_entry_12 : decode b_S_entry 12 = .ok (.aload_n 0, 1) := by decide +kernel
theorem d_S_entry_13 : decode b_S_entry 13 = .ok (.getfield 15, 3) := by decide +kernel
theorem d_S_entry_16 : decode b_S_entry 16 = .ok (.iload_n 1, 1) := by decide +kernel
theorem d_S_entry_17 : decode b_S_entry 17 = .ok (.iconst 5, 1) := by decide +kernel
theorem d_S_entry_18 : decode b_S_entry 18 = .ok (.imul, 1) := by decide +kernel
theorem d_S_entry_19 : decode b_S_entry 19 = .ok (.iconst 2, 1) := by decide +kernel
theorem d_S_entry_20 : decode b_S_entry 20 = .ok (.iadd, 1) := by decide +kernel
theorem d_S_entry_21 : decode b_S_entry 21 = .ok (.iaload, 1) := by decide +kernel
theorem d_S_entry_22 : decode b_S_entry 22 = .ok (.goto 4, 3) := by decide +kernel
theorem d_S_entry_25 : decode b_S_entry 25 = .ok (.iconst 0, 1) := by decide +kernel
theorem d_S_entry_26 : decode b_S_entry 26 = .ok (.istore_n 3, 1) := by decide +kernel
theorem d_S_entry_27 : decode b_S_entry 27 = .ok (.iload_n 3, 1) := by decide +kernel
theorem d_S_entry_28 : decode b_S_entry 28 = .ok (.ifCond .eq 12, 3) := by decide +kernel
theorem d_S_entry_31 : decode b_S_entry 31 = .ok (.aload_n 0, 1) := by decide +kernel
theorem d_S_entry_32 : decode b_S_entry 32 = .ok (.getfield 21, 3) := by decide +kernel
theorem d_S_entry_35 : decode b_S_entry 35 = .ok (.iload_n 3, 1) := by decide +kernel
theorem d_S_entry_36 : decode b_S_entry 36 = .ok (.baload, 1) := by decide +kernel
theorem d_S_entry_37 : decode b_S_entry 37 = .ok (.ifCond .eq 7, 3) := by decide +kernel
theorem d_S_entry_40 : decode b_S_entry 40 = .ok (.iconst 0, 1) := by decide +kernel
theorem d_S_entry_41 : decode b_S_entry 41 = .ok (.goto 14, 3) := by decide +kernel
theorem d_S_entry_44 : decode b_S_entry 44 = .ok (.aload_n 0, 1) := by decide +kernel
theorem d_S_entry_45 : decode b_S_entry 45 = .ok (.getfield 18, 3) := by decide +kernel
theorem d_S_entry_48 : decode b_S_entry 48 = .ok (.iload_n 3, 1) := by decide +kernel
theorem d_S_entry_49 : decode b_S_entry 49 = .ok (.bipush 8, 2) := by decide +kernel
theorem d_S_entry_51 : decode b_S_entry 51 = .ok (.imul, 1) := by decide +kernel
theorem d_S_entry_52 : decode b_S_entry 52 = .ok (.iload_n 2, 1) := by decide +kernel
theorem d_S_entry_53 : decode b_S_entry 53 = .ok (.iadd, 1) := by decide +kernel
theorem d_S_entry_54 : decode b_S_entry 54 = .ok (.iaload, 1) := by decide +kernel
theorem d_S_entry_55 : decode b_S_entry 55 = .ok (.ireturn, 1) := by decide +kernel
abbrev b_S_entriesFor : ByteArray := prog_2_method_31_code
abbrev y_S_entriesFor : MethodName := ⟨"OrderedVolume$Store", "entriesFor", "(II)I"⟩
abbrev o_S_entriesFor : Cond := .code y_S_entriesFor b_S_entriesFor 7 (some .int)
abbrev rm_S_entriesFor : Room := { frames := 1, cells := 0, slots := 0, locals := 23 }
theorem d_S_entriesFor_0 : decode b_S_entriesFor 0 = .ok (.iconst 0, 1) := by decide +kernel
theorem d_S_entriesFor_1 : decode b_S_entriesFor 1 = .ok (.istore_n 3, 1) := by decide +kernel
theorem d_S_entriesFor_2 : decode b_S_entriesFor 2 = .ok (.iconst 0, 1) := by decide +kernel
theorem d_S_entriesFor_3 : decode b_S_entriesFor 3 = .ok (.istore 4, 2) := by decide +kernel
theorem d_S_entriesFor_5 : decode b_S_entriesFor 5 = .ok (.iload 4, 2) := by decide +kernel
theorem d_S_entriesFor_7 : decode b_S_entriesFor 7 = .ok (.bipush 18, 2) := by decide +kernel
theorem d_S_entriesFor_9 : decode b_S_entriesFor 9 = .ok (.if_icmp .ge 64, 3) := by decide +kernel
theorem d_S_entriesFor_12 : decode b_S_entriesFor 12 = .ok (.iload_n 1, 1) := by decide +kernel
theorem d_S_entriesFor_13 : decode b_S_entriesFor 13 = .ok (.iload 4, 2) := by decide +kernel
theorem d_S_entriesFor_15 : decode b_S_entriesFor 15 = .ok (.invokestatic 66, 3) := by decide +kernel
theorem d_S_entriesFor_18 : decode b_S_entriesFor 18 = .ok (.ifCond .ne 6, 3) := by decide +kernel
theorem d_S_entriesFor_21 : decode b_S_entriesFor 21 = .ok (.goto 46, 3) := by decide +kernel
theorem d_S_entriesFor_24 : decode b_S_entriesFor 24 = .ok (.iconst 0, 1) := by decide +kernel
theorem d_S_entriesFor_25 : decode b_S_entriesFor 25 = .ok (.istore 5, 2) := by decide +kernel
theorem d_S_entriesFor_27 : decode b_S_entriesFor 27 = .ok (.iload 5, 2) := by decide +kernel
theorem d_S_entriesFor_29 : decode b_S_entriesFor 29 = .ok (.bipush 8, 2) := by decide +kernel
theorem d_S_entriesFor_31 : decode b_S_entriesFor 31 = .ok (.if_icmp .ge 36, 3) := by decide +kernel
theorem d_S_entriesFor_34 : decode b_S_entriesFor 34 = .ok (.aload_n 0, 1) := by decide +kernel
theorem d_S_entriesFor_35 : decode b_S_entriesFor 35 = .ok (.iload 4, 2) := by decide +kernel
theorem d_S_entriesFor_37 : decode b_S_entriesFor 37 = .ok (.iload 5, 2) := by decide +kernel
theorem d_S_entriesFor_39 : decode b_S_entriesFor 39 = .ok (.invokevirtual 56, 3) := by decide +kernel
theorem d_S_entriesFor_42 : decode b_S_entriesFor 42 = .ok (.istore 6, 2) := by decide +kernel
theorem d_S_entriesFor_44 : decode b_S_entriesFor 44 = .ok (.iload 6, 2) := by decide +kernel
theorem d_S_entriesFor_46 : decode b_S_entriesFor 46 = .ok (.ifCond .eq 15, 3) := by decide +kernel
theorem d_S_entriesFor_49 : decode b_S_entriesFor 49 = .ok (.iload 6, 2) := by decide +kernel
theorem d_S_entriesFor_51 : decode b_S_entriesFor 51 = .ok (.bipush 32, 2) := by decide +kernel
theorem d_S_entriesFor_53 : decode b_S_entriesFor 53 = .ok (.irem, 1) := by decide +kernel
theorem d_S_entriesFor_54 : decode b_S_entriesFor 54 = .ok (.iload_n 2, 1) := by decide +kernel
theorem d_S_entriesFor_55 : decode b_S_entriesFor 55 = .ok (.if_icmp .ne 6, 3) := by decide +kernel
theorem d_S_entriesFor_58 : decode b_S_entriesFor 58 = .ok (.iinc 3 1, 3) := by decide +kernel
theorem d_S_entriesFor_61 : decode b_S_entriesFor 61 = .ok (.iinc 5 1, 3) := by decide +kernel
theorem d_S_entriesFor_64 : decode b_S_entriesFor 64 = .ok (.goto (-37), 3) := by decide +kernel
theorem d_S_entriesFor_67 : decode b_S_entriesFor 67 = .ok (.iinc 4 1, 3) := by decide +kernel
theorem d_S_entriesFor_70 : decode b_S_entriesFor 70 = .ok (.goto (-65), 3) := by decide +kernel
theorem d_S_entriesFor_73 : decode b_S_entriesFor 73 = .ok (.iload_n 3, 1) := by decide +kernel
theorem d_S_entriesFor_74 : decode b_S_entriesFor 74 = .ok (.ireturn, 1) := by decide +kernel
abbrev b_S_badEntries : ByteArray := prog_2_method_33_code
abbrev y_S_badEntries : MethodName := ⟨"OrderedVolume$Store", "badEntries", "(I)I"⟩
abbrev o_S_badEntries : Cond := .code y_S_badEntries b_S_badEntries 4 (some .int)
abbrev rm_S_badEntries : Room := { frames := 2, cells := 0, slots := 0, locals := 49 }
theorem d_S_badEntries_0 : decode b_S_badEntries 0 = .ok (.iconst 0, 1) := by decide +kernel
theorem d_S_badEntries_1 : decode b_S_badEntries 1 = .ok (.istore_n 2, 1) := by decide +kernel
theorem d_S_badEntries_2 : decode b_S_badEntries 2 = .ok (.iconst 0, 1) := by decide +kernel
theorem d_S_badEntries_3 : decode b_S_badEntries 3 = .ok (.istore_n 3, 1) := by decide +kernel
theorem d_S_badEntries_4 : decode b_S_badEntries 4 = .ok (.iload_n 3, 1) := by decide +kernel
theorem d_S_badEntries_5 : decode b_S_badEntries 5 = .ok (.bipush 18, 2) := by decide +kernel
theorem d_S_badEntries_7 : decode b_S_badEntries 7 = .ok (.if_icmp .ge 34, 3) := by decide +kernel
theorem d_S_badEntries_10 : decode b_S_badEntries 10 = .ok (.aload_n 0, 1) := by decide +kernel
theorem d_S_badEntries_11 : decode b_S_badEntries 11 = .ok (.iload_n 3, 1) := by decide +kernel
theorem d_S_badEntries_12 : decode b_S_badEntries 12 = .ok (.invokevirtual 73, 3) := by decide +kernel
theorem d_S_badEntries_15 : decode b_S_badEntries 15 = .ok (.ifCond .eq 11, 3) := by decide +kernel
theorem d_S_badEntries_18 : decode b_S_badEntries 18 = .ok (.aload_n 0, 1) := by decide +kernel
theorem d_S_badEntries_19 : decode b_S_badEntries 19 = .ok (.iload_n 3, 1) := by decide +kernel
theorem d_S_badEntries_20 : decode b_S_badEntries 20 = .ok (.invokevirtual 70, 3) := by decide +kernel
theorem d_S_badEntries_23 : decode b_S_badEntries 23 = .ok (.ifCond .ne 12, 3) := by decide +kernel
theorem d_S_badEntries_26 : decode b_S_badEntries 26 = .ok (.iload_n 2, 1) := by decide +kernel
theorem d_S_badEntries_27 : decode b_S_badEntries 27 = .ok (.aload_n 0, 1) := by decide +kernel
theorem d_S_badEntries_28 : decode b_S_badEntries 28 = .ok (.iload_n 1, 1) := by decide +kernel
theorem d_S_badEntries_29 : decode b_S_badEntries 29 = .ok (.iload_n 3, 1) := by decide +kernel
theorem d_S_badEntries_30 : decode b_S_badEntries 30 = .ok (.invokevirtual 82, 3) := by decide +kernel
theorem d_S_badEntries_33 : decode b_S_badEntries 33 = .ok (.iadd, 1) := by decide +kernel
theorem d_S_badEntries_34 : decode b_S_badEntries 34 = .ok (.istore_n 2, 1) := by decide +kernel
theorem d_S_badEntries_35 : decode b_S_badEntries 35 = .ok (.iinc 3 1, 3) := by decide +kernel
theorem d_S_badEntries_38 : decode b_S_badEntries 38 = .ok (.goto (-34), 3) := by decide +kernel
theorem d_S_badEntries_41 : decode b_S_badEntries 41 = .ok (.iload_n 2, 1) := by decide +kernel
theorem d_S_badEntries_42 : decode b_S_badEntries 42 = .ok (.ireturn, 1) := by decide +kernel
abbrev b_V_isData : ByteArray := prog_1_method_19_code
abbrev y_V_isData : MethodName := ⟨"OrderedVolume", "isData", "(I)Z"⟩
abbrev o_V_isData : Cond := .code y_V_isData b_V_isData 1 (some .boolean)
abbrev rm_V_isData : Room := { frames := 0, cells := 0, slots := 0, locals := 0 }
theorem d_V_isData_0 : decode b_V_isData 0 = .ok (.iload_n 0, 1) := by decide +kernel
theorem d_V_isData_1 : decode b_V_isData 1 = .ok (.bipush 12, 2) := by decide +kernel
theorem d_V_isData_3 : decode b_V_isData 3 = .ok (.irem, 1) := by decide +kernel
theorem d_V_isData_4 : decode b_V_isData 4 = .ok (.iconst 2, 1) := by decide +kernel
theorem d_V_isData_5 : decode b_V_isData 5 = .ok (.if_icmp .lt 7, 3) := by decide +kernel
theorem d_V_isData_8 : decode b_V_isData 8 = .ok (.iconst 1, 1) := by decide +kernel
theorem d_V_isData_9 : decode b_V_isData 9 = .ok (.goto 4, 3) := by decide +kernel
theorem d_V_isData_12 : decode b_V_isData 12 = .ok (.iconst 0, 1) := by decide +kernel
theorem d_V_isData_13 : decode b_V_isData 13 = .ok (.ireturn, 1) := by decide +kernel
abbrev b_S_blockMark : ByteArray := prog_2_method_13_code
abbrev y_S_blockMark : MethodName := ⟨"OrderedVolume$Store", "blockMark", "(I)I"⟩
abbrev o_S_blockMark : Cond := .code y_S_blockMark b_S_blockMark 2 (some .int)
abbrev rm_S_blockMark : Room := { frames := 0, cells := 0, slots := 0, locals := 0 }
theorem d_S_blockMark_0 : decode b_S_blockMark 0 = .ok (.aload_n 0, 1) := by decide +kernel
theorem d_S_blockMark_1 : decode b_S_blockMark 1 = .ok (.getfield 9, 3) := by decide +kernel
theorem d_S_blockMark_4 : decode b_S_blockMark 4 = .ok (.iload_n 1, 1) := by decide +kernel
theorem d_S_blockMark_5 : decode b_S_blockMark 5 = .ok (.bipush 12, 2) := by decide +kernel
theorem d_S_blockMark_7 : decode b_S_blockMark 7 = .ok (.idiv, 1) := by decide +kernel
theorem d_S_blockMark_8 : decode b_S_blockMark 8 = .ok (.bipush 16, 2) := by decide +kernel
theorem d_S_blockMark_10 : decode b_S_blockMark 10 = .ok (.imul, 1) := by decide +kernel
theorem d_S_blockMark_11 : decode b_S_blockMark 11 = .ok (.bipush 6, 2) := by decide +kernel
theorem d_S_blockMark_13 : decode b_S_blockMark 13 = .ok (.iadd, 1) := by decide +kernel
theorem d_S_blockMark_14 : decode b_S_blockMark 14 = .ok (.iload_n 1, 1) := by decide +kernel
theorem d_S_blockMark_15 : decode b_S_blockMark 15 = .ok (.bipush 12, 2) := by decide +kernel
theorem d_S_blockMark_17 : decode b_S_blockMark 17 = .ok (.irem, 1) := by decide +kernel
theorem d_S_blockMark_18 : decode b_S_blockMark 18 = .ok (.iadd, 1) := by decide +kernel
theorem d_S_blockMark_19 : decode b_S_blockMark 19 = .ok (.iconst 2, 1) := by decide +kernel
theorem d_S_blockMark_20 : decode b_S_blockMark 20 = .ok (.isub, 1) := by decide +kernel
theorem d_S_blockMark_21 : decode b_S_blockMark 21 = .ok (.iaload, 1) := by decide +kernel
theorem d_S_blockMark_22 : decode b_S_blockMark 22 = .ok (.ireturn, 1) := by decide +kernel
abbrev b_S_pointer : ByteArray := prog_2_method_19_code
abbrev y_S_pointer : MethodName := ⟨"OrderedVolume$Store", "pointer", "(II)I"⟩
abbrev o_S_pointer : Cond := .code y_S_pointer b_S_pointer 3 (some .int)
abbrev rm_S_pointer : Room := { frames := 0, cells := 0, slots := 0, locals := 0 }
theorem d_S_pointer_0 : decode b_S_pointer 0 = .ok (.aload_n 0, 1) := by decide +kernel
theorem d_S_pointer_1 : decode b_S_pointer 1 = .ok (.getfield 15, 3) := by decide +kernel
theorem d_S_pointer_4 : decode b_S_pointer 4 = .ok (.iload_n 1, 1) := by decide +kernel
theorem d_S_pointer_5 : decode b_S_pointer 5 = .ok (.iconst 5, 1) := by decide +kernel
theorem d_S_pointer_6 : decode b_S_pointer 6 = .ok (.imul, 1) := by decide +kernel
theorem d_S_pointer_7 : decode b_S_pointer 7 = .ok (.iconst 2, 1) := by decide +kernel
theorem d_S_pointer_8 : decode b_S_pointer 8 = .ok (.iadd, 1) := by decide +kernel
theorem d_S_pointer_9 : decode b_S_pointer 9 = .ok (.iload_n 2, 1) := by decide +kernel
theorem d_S_pointer_10 : decode b_S_pointer 10 = .ok (.iadd, 1) := by decide +kernel
theorem d_S_pointer_11 : decode b_S_pointer 11 = .ok (.iaload, 1) := by decide +kernel
theorem d_S_pointer_12 : decode b_S_pointer 12 = .ok (.ireturn, 1) := by decide +kernel
abbrev b_S_pointersTo : ByteArray := prog_2_method_32_code
abbrev y_S_pointersTo : MethodName := ⟨"OrderedVolume$Store", "pointersTo", "(II)I"⟩
abbrev o_S_pointersTo : Cond := .code y_S_pointersTo b_S_pointersTo 6 (some .int)
abbrev rm_S_pointersTo : Room := { frames := 1, cells := 0, slots := 0, locals := 22 }
theorem d_S_pointersTo_0 : decode b_S_pointersTo 0 = .ok (.iconst 0, 1) := by decide +kernel
theorem d_S_pointersTo_1 : decode b_S_pointersTo 1 = .ok (.istore_n 3, 1) := by decide +kernel
theorem d_S_pointersTo_2 : decode b_S_pointersTo 2 = .ok (.iconst 0, 1) := by decide +kernel
theorem d_S_pointersTo_3 : decode b_S_pointersTo 3 = .ok (.istore 4, 2) := by decide +kernel
theorem d_S_pointersTo_5 : decode b_S_pointersTo 5 = .ok (.iload 4, 2) := by decide +kernel
theorem d_S_pointersTo_7 : decode b_S_pointersTo 7 = .ok (.bipush 18, 2) := by decide +kernel
theorem d_S_pointersTo_9 : decode b_S_pointersTo 9 = .ok (.if_icmp .ge 48, 3) := by decide +kernel
theorem d_S_pointersTo_12 : decode b_S_pointersTo 12 = .ok (.iconst 0, 1) := by decide +kernel
theorem d_S_pointersTo_13 : decode b_S_pointersTo 13 = .ok (.istore 5, 2) := by decide +kernel
theorem d_S_pointersTo_15 : decode b_S_pointersTo 15 = .ok (.iload 5, 2) := by decide +kernel
theorem d_S_pointersTo_17 : decode b_S_pointersTo 17 = .ok (.iconst 3, 1) := by decide +kernel
theorem d_S_pointersTo_18 : decode b_S_pointersTo 18 = .ok (.if_icmp .ge 33, 3) := by decide +kernel
theorem d_S_pointersTo_21 : decode b_S_pointersTo 21 = .ok (.iload_n 1, 1) := by decide +kernel
theorem d_S_pointersTo_22 : decode b_S_pointersTo 22 = .ok (.iload 4, 2) := by decide +kernel
theorem d_S_pointersTo_24 : decode b_S_pointersTo 24 = .ok (.invokestatic 66, 3) := by decide +kernel
theorem d_S_pointersTo_27 : decode b_S_pointersTo 27 = .ok (.ifCond .eq 18, 3) := by decide +kernel
theorem d_S_pointersTo_30 : decode b_S_pointersTo 30 = .ok (.aload_n 0, 1) := by decide +kernel
theorem d_S_pointersTo_31 : decode b_S_pointersTo 31 = .ok (.iload 4, 2) := by decide +kernel
theorem d_S_pointersTo_33 : decode b_S_pointersTo 33 = .ok (.iload 5, 2) := by decide +kernel
theorem d_S_pointersTo_35 : decode b_S_pointersTo 35 = .ok (.invokevirtual 63, 3) := by decide +kernel
theorem d_S_pointersTo_38 : decode b_S_pointersTo 38 = .ok (.iload_n 2, 1) := by decide +kernel
theorem d_S_pointersTo_39 : decode b_S_pointersTo 39 = .ok (.if_icmp .ne 6, 3) := by decide +kernel
theorem d_S_pointersTo_42 : decode b_S_pointersTo 42 = .ok (.iinc 3 1, 3) := by decide +kernel
theorem d_S_pointersTo_45 : decode b_S_pointersTo 45 = .ok (.iinc 5 1, 3) := by decide +kernel
theorem d_S_pointersTo_48 : decode b_S_pointersTo 48 = .ok (.goto (-33), 3) := by decide +kernel
theorem d_S_pointersTo_51 : decode b_S_pointersTo 51 = .ok (.iinc 4 1, 3) := by decide +kernel
theorem d_S_pointersTo_54 : decode b_S_pointersTo 54 = .ok (.goto (-49), 3) := by decide +kernel
theorem d_S_pointersTo_57 : decode b_S_pointersTo 57 = .ok (.iload_n 3, 1) := by decide +kernel
theorem d_S_pointersTo_58 : decode b_S_pointersTo 58 = .ok (.ireturn, 1) := by decide +kernel
abbrev b_S_badPointers : ByteArray := prog_2_method_34_code
abbrev y_S_badPointers : MethodName := ⟨"OrderedVolume$Store", "badPointers", "(I)I"⟩
abbrev o_S_badPointers : Cond := .code y_S_badPointers b_S_badPointers 4 (some .int)
abbrev rm_S_badPointers : Room := { frames := 2, cells := 0, slots := 0, locals := 47 }
theorem d_S_badPointers_0 : decode b_S_badPointers 0 = .ok (.iconst 0, 1) := by decide +kernel
theorem d_S_badPointers_1 : decode b_S_badPointers 1 = .ok (.istore_n 2, 1) := by decide +kernel
theorem d_S_badPointers_2 : decode b_S_badPointers 2 = .ok (.iconst 0, 1) := by decide +kernel
theorem d_S_badPointers_3 : decode b_S_badPointers 3 = .ok (.istore_n 3, 1) := by decide +kernel
theorem d_S_badPointers_4 : decode b_S_badPointers 4 = .ok (.iload_n 3, 1) := by decide +kernel
theorem d_S_badPointers_5 : decode b_S_badPointers 5 = .ok (.bipush 36, 2) := by decide +kernel
theorem d_S_badPointers_7 : decode b_S_badPointers 7 = .ok (.if_icmp .ge 33, 3) := by decide +kernel
theorem d_S_badPointers_10 : decode b_S_badPointers 10 = .ok (.iload_n 3, 1) := by decide +kernel
theorem d_S_badPointers_11 : decode b_S_badPointers 11 = .ok (.invokestatic 85, 3) := by decide +kernel
theorem d_S_badPointers_14 : decode b_S_badPointers 14 = .ok (.ifCond .eq 20, 3) := by decide +kernel
theorem d_S_badPointers_17 : decode b_S_badPointers 17 = .ok (.aload_n 0, 1) := by decide +kernel
theorem d_S_badPointers_18 : decode b_S_badPointers 18 = .ok (.iload_n 3, 1) := by decide +kernel
theorem d_S_badPointers_19 : decode b_S_badPointers 19 = .ok (.invokevirtual 79, 3) := by decide +kernel
theorem d_S_badPointers_22 : decode b_S_badPointers 22 = .ok (.ifCond .ne 12, 3) := by decide +kernel
theorem d_S_badPointers_25 : decode b_S_badPointers 25 = .ok (.iload_n 2, 1) := by decide +kernel
theorem d_S_badPointers_26 : decode b_S_badPointers 26 = .ok (.aload_n 0, 1) := by decide +kernel
theorem d_S_badPointers_27 : decode b_S_badPointers 27 = .ok (.iload_n 1, 1) := by decide +kernel
theorem d_S_badPointers_28 : decode b_S_badPointers 28 = .ok (.iload_n 3, 1) := by decide +kernel
theorem d_S_badPointers_29 : decode b_S_badPointers 29 = .ok (.invokevirtual 88, 3) := by decide +kernel
theorem d_S_badPointers_32 : decode b_S_badPointers 32 = .ok (.iadd, 1) := by decide +kernel
theorem d_S_badPointers_33 : decode b_S_badPointers 33 = .ok (.istore_n 2, 1) := by decide +kernel
theorem d_S_badPointers_34 : decode b_S_badPointers 34 = .ok (.iinc 3 1, 3) := by decide +kernel
theorem d_S_badPointers_37 : decode b_S_badPointers 37 = .ok (.goto (-33), 3) := by decide +kernel
theorem d_S_badPointers_40 : decode b_S_badPointers 40 = .ok (.iload_n 2, 1) := by decide +kernel
theorem d_S_badPointers_41 : decode b_S_badPointers 41 = .ok (.ireturn, 1) := by decide +kernel
abbrev b_S_cell : ByteArray := prog_2_method_2_code
abbrev y_S_cell : MethodName := ⟨"OrderedVolume$Store", "cell", "(II)I"⟩
abbrev o_S_cell : Cond := .code y_S_cell b_S_cell 5 (some .int)
abbrev rm_S_cell : Room := { frames := 0, cells := 0, slots := 0, locals := 0 }
theorem d_S_cell_0 : decode b_S_cell 0 = .ok (.iload_n 1, 1) := by decide +kernel
theorem d_S_cell_1 : decode b_S_cell 1 = .ok (.bipush 12, 2) := by decide +kernel
theorem d_S_cell_3 : decode b_S_cell 3 = .ok (.idiv, 1) := by decide +kernel
theorem d_S_cell_4 : decode b_S_cell 4 = .ok (.istore_n 3, 1) := by decide +kernel
theorem d_S_cell_5 : decode b_S_cell 5 = .ok (.iload_n 1, 1) := by decide +kernel
theorem d_S_cell_6 : decode b_S_cell 6 = .ok (.bipush 12, 2) := by decide +kernel
theorem d_S_cell_8 : decode b_S_cell 8 = .ok (.irem, 1) := by decide +kernel
theorem d_S_cell_9 : decode b_S_cell 9 = .ok (.istore 4, 2) := by decide +kernel
theorem d_S_cell_11 : decode b_S_cell 11 = .ok (.iload 4, 2) := by decide +kernel
theorem d_S_cell_13 : decode b_S_cell 13 = .ok (.ifCond .ne 15, 3) := by decide +kernel
theorem d_S_cell_16 : decode b_S_cell 16 = .ok (.aload_n 0, 1) := by decide +kernel
theorem d_S_cell_17 : decode b_S_cell 17 = .ok (.getfield 9, 3) := by decide +kernel
theorem d_S_cell_20 : decode b_S_cell 20 = .ok (.iload_n 3, 1) := by decide +kernel
theorem d_S_cell_21 : decode b_S_cell 21 = .ok (.bipush 16, 2) := by decide +kernel
theorem d_S_cell_23 : decode b_S_cell 23 = .ok (.imul, 1) := by decide +kernel
theorem d_S_cell_24 : decode b_S_cell 24 = .ok (.iload_n 2, 1) := by decide +kernel
theorem d_S_cell_25 : decode b_S_cell 25 = .ok (.iadd, 1) := by decide +kernel
theorem d_S_cell_26 : decode b_S_cell 26 = .ok (.iaload, 1) := by decide +kernel
theorem d_S_cell_27 : decode b_S_cell 27 = .ok (.ireturn, 1) := by decide +kernel
theorem d_S_cell_28 : decode b_S_cell 28 = .ok (.iload 4, 2) := by decide +kernel
theorem d_S_cell_30 : decode b_S_cell 30 = .ok (.iconst 1, 1) := by decide +kernel
theorem d_S_cell_31 : decode b_S_cell 31 = .ok (.if_icmp .ne 17, 3) := by decide +kernel
theorem d_S_cell_34 : decode b_S_cell 34 = .ok (.aload_n 0, 1) := by decide +kernel
theorem d_S_cell_35 : decode b_S_cell 35 = .ok (.getfield 15, 3) := by decide +kernel
theorem d_S_cell_38 : decode b_S_cell 38 = .ok (.iload_n 3, 1) := by decide +kernel
theorem d_S_cell_39 : decode b_S_cell 39 = .ok (.bipush 30, 2) := by decide +kernel
theorem d_S_cell_41 : decode b_S_cell 41 = .ok (.imul, 1) := by decide +kernel
theorem d_S_cell_42 : decode b_S_cell 42 = .ok (.iload_n 2, 1) := by decide +kernel
theorem d_S_cell_43 : decode b_S_cell 43 = .ok (.iadd, 1) := by decide +kernel
theorem d_S_cell_44 : decode b_S_cell 44 = .ok (.iaload, 1) := by decide +kernel
theorem d_S_cell_45 : decode b_S_cell 45 = .ok (.goto 14, 3) := by decide +kernel
theorem d_S_cell_48 : decode b_S_cell 48 = .ok (.aload_n 0, 1) := by decide +kernel
theorem d_S_cell_49 : decode b_S_cell 49 = .ok (.getfield 18, 3) := by decide +kernel
theorem d_S_cell_52 : decode b_S_cell 52 = .ok (.iload_n 1, 1) := by decide +kernel
theorem d_S_cell_53 : decode b_S_cell 53 = .ok (.bipush 8, 2) := by decide +kernel
theorem d_S_cell_55 : decode b_S_cell 55 = .ok (.imul, 1) := by decide +kernel
theorem d_S_cell_56 : decode b_S_cell 56 = .ok (.iload_n 2, 1) := by decide +kernel
theorem d_S_cell_57 : decode b_S_cell 57 = .ok (.iadd, 1) := by decide +kernel
theorem d_S_cell_58 : decode b_S_cell 58 = .ok (.iaload, 1) := by decide +kernel
theorem d_S_cell_59 : decode b_S_cell 59 = .ok (.ireturn, 1) := by decide +kernel
abbrev b_V_isName : ByteArray := prog_1_method_17_code
abbrev y_V_isName : MethodName := ⟨"OrderedVolume", "isName", "(I)Z"⟩
abbrev o_V_isName : Cond := .code y_V_isName b_V_isName 1 (some .boolean)
abbrev rm_V_isName : Room := { frames := 0, cells := 0, slots := 0, locals := 0 }
theorem d_V_isName_0 : decode b_V_isName 0 = .ok (.iload_n 0, 1) := by decide +kernel
theorem d_V_isName_1 : decode b_V_isName 1 = .ok (.iconst 1, 1) := by decide +kernel
theorem d_V_isName_2 : decode b_V_isName 2 = .ok (.if_icmp .lt 14, 3) := by decide +kernel
theorem d_V_isName_5 : decode b_V_isName 5 = .ok (.iload_n 0, 1) := by decide +kernel
theorem d_V_isName_6 : decode b_V_isName 6 = .ok (.sipush 999, 3) := by decide +kernel
theorem d_V_isName_9 : decode b_V_isName 9 = .ok (.if_icmp .gt 7, 3) := by decide +kernel
theorem d_V_isName_12 : decode b_V_isName 12 = .ok (.iconst 1, 1) := by decide +kernel
theorem d_V_isName_13 : decode b_V_isName 13 = .ok (.goto 4, 3) := by decide +kernel
theorem d_V_isName_16 : decode b_V_isName 16 = .ok (.iconst 0, 1) := by decide +kernel
theorem d_V_isName_17 : decode b_V_isName 17 = .ok (.ireturn, 1) := by decide +kernel
abbrev b_S_cellOfName : ByteArray := prog_2_method_24_code
abbrev y_S_cellOfName : MethodName := ⟨"OrderedVolume$Store", "cellOfName", "(II)I"⟩
abbrev o_S_cellOfName : Cond := .code y_S_cellOfName b_S_cellOfName 4 (some .int)
abbrev rm_S_cellOfName : Room := { frames := 1, cells := 0, slots := 0, locals := 23 }
theorem d_S_cellOfName_0 : decode b_S_cellOfName 0 = .ok (.iload_n 2, 1) := by decide +kernel
theorem d_S_cellOfName_1 : decode b_S_cellOfName 1 = .ok (.invokestatic 59, 3) := by decide +kernel
theorem d_S_cellOfName_4 : decode b_S_cellOfName 4 = .ok (.ifCond .ne 5, 3) := by decide +kernel
theorem d_S_cellOfName_7 : decode b_S_cellOfName 7 = .ok (.iconst (-1), 1) := by decide +kernel
theorem d_S_cellOfName_8 : decode b_S_cellOfName 8 = .ok (.ireturn, 1) := by decide +kernel
theorem d_S_cellOfName_9 : decode b_S_cellOfName 9 = .ok (.iconst 0, 1) := by decide +kernel
theorem d_S_cellOfName_10 : decode b_S_cellOfName 10 = .ok (.istore_n 3, 1) := by decide +kernel
theorem d_S_cellOfName_11 : decode b_S_cellOfName 11 = .ok (.iload_n 3, 1) := by decide +kernel
theorem d_S_cellOfName_12 : decode b_S_cellOfName 12 = .ok (.bipush 8, 2) := by decide +kernel
theorem d_S_cellOfName_14 : decode b_S_cellOfName 14 = .ok (.if_icmp .ge 24, 3) := by decide +kernel
theorem d_S_cellOfName_17 : decode b_S_cellOfName 17 = .ok (.aload_n 0, 1) := by decide +kernel
theorem d_S_cellOfName_18 : decode b_S_cellOfName 18 = .ok (.iload_n 1, 1) := by decide +kernel
theorem d_S_cellOfName_19 : decode b_S_cellOfName 19 = .ok (.iload_n 3, 1) := by decide +kernel
theorem d_S_cellOfName_20 : decode b_S_cellOfName 20 = .ok (.invokevirtual 56, 3) := by decide +kernel
theorem d_S_cellOfName_23 : decode b_S_cellOfName 23 = .ok (.bipush 32, 2) := by decide +kernel
theorem d_S_cellOfName_25 : decode b_S_cellOfName 25 = .ok (.idiv, 1) := by decide +kernel
theorem d_S_cellOfName_26 : decode b_S_cellOfName 26 = .ok (.iload_n 2, 1) := by decide +kernel
theorem d_S_cellOfName_27 : decode b_S_cellOfName 27 = .ok (.if_icmp .ne 5, 3) := by decide +kernel
theorem d_S_cellOfName_30 : decode b_S_cellOfName 30 = .ok (.iload_n 3, 1) := by decide +kernel
theorem d_S_cellOfName_31 : decode b_S_cellOfName 31 = .ok (.ireturn, 1) := by decide +kernel
theorem d_S_cellOfName_32 : decode b_S_cellOfName 32 = .ok (.iinc 3 1, 3) := by decide +kernel
theorem d_S_cellOfName_35 : decode b_S_cellOfName 35 = .ok (.goto (-24), 3) := by decide +kernel
theorem d_S_cellOfName_38 : decode b_S_cellOfName 38 = .ok (.iconst (-1), 1) := by decide +kernel
theorem d_S_cellOfName_39 : decode b_S_cellOfName 39 = .ok (.ireturn, 1) := by decide +kernel
abbrev b_S_clearWords : ByteArray := prog_2_method_8_code
abbrev y_S_clearWords : MethodName := ⟨"OrderedVolume$Store", "clearWords", "(I)V"⟩
abbrev o_S_clearWords : Cond := .code y_S_clearWords b_S_clearWords 3 none
abbrev rm_S_clearWords : Room := { frames := 0, cells := 0, slots := 0, locals := 0 }
theorem d_S_clearWords_0 : decode b_S_clearWords 0 = .ok (.iconst 0, 1) := by decide +kernel
theorem d_S_clearWords_1 : decode b_S_clearWords 1 = .ok (.istore_n 2, 1) := by decide +kernel
theorem d_S_clearWords_2 : decode b_S_clearWords 2 = .ok (.iload_n 2, 1) := by decide +kernel
theorem d_S_clearWords_3 : decode b_S_clearWords 3 = .ok (.bipush 8, 2) := by decide +kernel
theorem d_S_clearWords_5 : decode b_S_clearWords 5 = .ok (.if_icmp .ge 21, 3) := by decide +kernel
theorem d_S_clearWords_8 : decode b_S_clearWords 8 = .ok (.aload_n 0, 1) := by decide +kernel
theorem d_S_clearWords_9 : decode b_S_clearWords 9 = .ok (.getfield 18, 3) := by decide +kernel
theorem d_S_clearWords_12 : decode b_S_clearWords 12 = .ok (.iload_n 1, 1) := by decide +kernel
theorem d_S_clearWords_13 : decode b_S_clearWords 13 = .ok (.bipush 8, 2) := by decide +kernel
theorem d_S_clearWords_15 : decode b_S_clearWords 15 = .ok (.imul, 1) := by decide +kernel
theorem d_S_clearWords_16 : decode b_S_clearWords 16 = .ok (.iload_n 2, 1) := by decide +kernel
theorem d_S_clearWords_17 : decode b_S_clearWords 17 = .ok (.iadd, 1) := by decide +kernel
theorem d_S_clearWords_18 : decode b_S_clearWords 18 = .ok (.iconst 0, 1) := by decide +kernel
theorem d_S_clearWords_19 : decode b_S_clearWords 19 = .ok (.iastore, 1) := by decide +kernel
theorem d_S_clearWords_20 : decode b_S_clearWords 20 = .ok (.iinc 2 1, 3) := by decide +kernel
theorem d_S_clearWords_23 : decode b_S_clearWords 23 = .ok (.goto (-21), 3) := by decide +kernel
theorem d_S_clearWords_26 : decode b_S_clearWords 26 = .ok (.return_, 1) := by decide +kernel
abbrev b_V_cellCount : ByteArray := prog_1_method_21_code
abbrev y_V_cellCount : MethodName := ⟨"OrderedVolume", "cellCount", "(I)I"⟩
abbrev o_V_cellCount : Cond := .code y_V_cellCount b_V_cellCount 2 (some .int)
abbrev rm_V_cellCount : Room := { frames := 0, cells := 0, slots := 0, locals := 0 }
theorem d_V_cellCount_0 : decode b_V_cellCount 0 = .ok (.iload_n 0, 1) := by decide +kernel
theorem d_V_cellCount_1 : decode b_V_cellCount 1 = .ok (.bipush 12, 2) := by decide +kernel
theorem d_V_cellCount_3 : decode b_V_cellCount 3 = .ok (.irem, 1) := by decide +kernel
theorem d_V_cellCount_4 : decode b_V_cellCount 4 = .ok (.istore_n 1, 1) := by decide +kernel
theorem d_V_cellCount_5 : decode b_V_cellCount 5 = .ok (.iload_n 1, 1) := by decide +kernel
theorem d_V_cellCount_6 : decode b_V_cellCount 6 = .ok (.ifCond .ne 8, 3) := by decide +kernel
theorem d_V_cellCount_9 : decode b_V_cellCount 9 = .ok (.bipush 16, 2) := by decide +kernel
theorem d_V_cellCount_11 : decode b_V_cellCount 11 = .ok (.goto 15, 3) := by decide +kernel
theorem d_V_cellCount_14 : decode b_V_cellCount 14 = .ok (.iload_n 1, 1) := by decide +kernel
theorem d_V_cellCount_15 : decode b_V_cellCount 15 = .ok (.iconst 1, 1) := by decide +kernel
theorem d_V_cellCount_16 : decode b_V_cellCount 16 = .ok (.if_icmp .ne 8, 3) := by decide +kernel
theorem d_V_cellCount_19 : decode b_V_cellCount 19 = .ok (.bipush 30, 2) := by decide +kernel
theorem d_V_cellCount_21 : decode b_V_cellCount 21 = .ok (.goto 5, 3) := by decide +kernel
theorem d_V_cellCount_24 : decode b_V_cellCount 24 = .ok (.bipush 8, 2) := by decide +kernel
theorem d_V_cellCount_26 : decode b_V_cellCount 26 = .ok (.ireturn, 1) := by decide +kernel
abbrev b_S_setCell : ByteArray := prog_2_method_3_code
abbrev y_S_setCell : MethodName := ⟨"OrderedVolume$Store", "setCell", "(III)V"⟩
abbrev o_S_setCell : Cond := .code y_S_setCell b_S_setCell 6 none
abbrev rm_S_setCell : Room := { frames := 0, cells := 0, slots := 0, locals := 0 }
theorem d_S_setCell_0 : decode b_S_setCell 0 = .ok (.iload_n 1, 1) := by decide +kernel
theorem d_S_setCell_1 : decode b_S_setCell 1 = .ok (.bipush 12, 2) := by decide +kernel
theorem d_S_setCell_3 : decode b_S_setCell 3 = .ok (.idiv, 1) := by decide +kernel
theorem d_S_setCell_4 : decode b_S_setCell 4 = .ok (.istore 4, 2) := by decide +kernel
theorem d_S_setCell_6 : decode b_S_setCell 6 = .ok (.iload_n 1, 1) := by decide +kernel
theorem d_S_setCell_7 : decode b_S_setCell 7 = .ok (.bipush 12, 2) := by decide +kernel
theorem d_S_setCell_9 : decode b_S_setCell 9 = .ok (.irem, 1) := by decide +kernel
theorem d_S_setCell_10 : decode b_S_setCell 10 = .ok (.istore 5, 2) := by decide +kernel
theorem d_S_setCell_12 : decode b_S_setCell 12 = .ok (.iload 5, 2) := by decide +kernel
theorem d_S_setCell_14 : decode b_S_setCell 14 = .ok (.ifCond .ne 19, 3) := by decide +kernel
theorem d_S_setCell_17 : decode b_S_setCell 17 = .ok (.aload_n 0, 1) := by decide +kernel
theorem d_S_setCell_18 : decode b_S_setCell 18 = .ok (.getfield 9, 3) := by decide +kernel
theorem d_S_setCell_21 : decode b_S_setCell 21 = .ok (.iload 4, 2) := by decide +kernel
theorem d_S_setCell_23 : decode b_S_setCell 23 = .ok (.bipush 16, 2) := by decide +kernel
theorem d_S_setCell_25 : decode b_S_setCell 25 = .ok (.imul, 1) := by decide +kernel
theorem d_S_setCell_26 : decode b_S_setCell 26 = .ok (.iload_n 2, 1) := by decide +kernel
theorem d_S_setCell_27 : decode b_S_setCell 27 = .ok (.iadd, 1) := by decide +kernel
theorem d_S_setCell_28 : decode b_S_setCell 28 = .ok (.iload_n 3, 1) := by decide +kernel
theorem d_S_setCell_29 : decode b_S_setCell 29 = .ok (.iastore, 1) := by decide +kernel
theorem d_S_setCell_30 : decode b_S_setCell 30 = .ok (.goto 37, 3) := by decide +kernel
theorem d_S_setCell_33 : decode b_S_setCell 33 = .ok (.iload 5, 2) := by decide +kernel
theorem d_S_setCell_35 : decode b_S_setCell 35 = .ok (.iconst 1, 1) := by decide +kernel
theorem d_S_setCell_36 : decode b_S_setCell 36 = .ok (.if_icmp .ne 19, 3) := by decide +kernel
theorem d_S_setCell_39 : decode b_S_setCell 39 = .ok (.aload_n 0, 1) := by decide +kernel
theorem d_S_setCell_40 : decode b_S_setCell 40 = .ok (.getfield 15, 3) := by decide +kernel
theorem d_S_setCell_43 : decode b_S_setCell 43 = .ok (.iload 4, 2) := by decide +kernel
theorem d_S_setCell_45 : decode b_S_setCell 45 = .ok (.bipush 30, 2) := by decide +kernel
theorem d_S_setCell_47 : decode b_S_setCell 47 = .ok (.imul, 1) := by decide +kernel
theorem d_S_setCell_48 : decode b_S_setCell 48 = .ok (.iload_n 2, 1) := by decide +kernel
theorem d_S_setCell_49 : decode b_S_setCell 49 = .ok (.iadd, 1) := by decide +kernel
theorem d_S_setCell_50 : decode b_S_setCell 50 = .ok (.iload_n 3, 1) := by decide +kernel
theorem d_S_setCell_51 : decode b_S_setCell 51 = .ok (.iastore, 1) := by decide +kernel
theorem d_S_setCell_52 : decode b_S_setCell 52 = .ok (.goto 15, 3) := by decide +kernel
theorem d_S_setCell_55 : decode b_S_setCell 55 = .ok (.aload_n 0, 1) := by decide +kernel
theorem d_S_setCell_56 : decode b_S_setCell 56 = .ok (.getfield 18, 3) := by decide +kernel
theorem d_S_setCell_59 : decode b_S_setCell 59 = .ok (.iload_n 1, 1) := by decide +kernel
theorem d_S_setCell_60 : decode b_S_setCell 60 = .ok (.bipush 8, 2) := by decide +kernel
theorem d_S_setCell_62 : decode b_S_setCell 62 = .ok (.imul, 1) := by decide +kernel
theorem d_S_setCell_63 : decode b_S_setCell 63 = .ok (.iload_n 2, 1) := by decide +kernel
theorem d_S_setCell_64 : decode b_S_setCell 64 = .ok (.iadd, 1) := by decide +kernel
theorem d_S_setCell_65 : decode b_S_setCell 65 = .ok (.iload_n 3, 1) := by decide +kernel
theorem d_S_setCell_66 : decode b_S_setCell 66 = .ok (.iastore, 1) := by decide +kernel
theorem d_S_setCell_67 : decode b_S_setCell 67 = .ok (.return_, 1) := by decide +kernel
abbrev b_S_copyBlock : ByteArray := prog_2_method_4_code
abbrev y_S_copyBlock : MethodName := ⟨"OrderedVolume$Store", "copyBlock", "(LOrderedVolume$Store;I)V"⟩
abbrev o_S_copyBlock : Cond := .code y_S_copyBlock b_S_copyBlock 5 none
abbrev rm_S_copyBlock : Room := { frames := 1, cells := 0, slots := 0, locals := 25 }
theorem d_S_copyBlock_0 : decode b_S_copyBlock 0 = .ok (.iload_n 2, 1) := by decide +kernel
theorem d_S_copyBlock_1 : decode b_S_copyBlock 1 = .ok (.invokestatic 45, 3) := by decide +kernel
theorem d_S_copyBlock_4 : decode b_S_copyBlock 4 = .ok (.istore_n 3, 1) := by decide +kernel
theorem d_S_copyBlock_5 : decode b_S_copyBlock 5 = .ok (.iconst 0, 1) := by decide +kernel
theorem d_S_copyBlock_6 : decode b_S_copyBlock 6 = .ok (.istore 4, 2) := by decide +kernel
theorem d_S_copyBlock_8 : decode b_S_copyBlock 8 = .ok (.iload 4, 2) := by decide +kernel
theorem d_S_copyBlock_10 : decode b_S_copyBlock 10 = .ok (.iload_n 3, 1) := by decide +kernel
theorem d_S_copyBlock_11 : decode b_S_copyBlock 11 = .ok (.if_icmp .ge 23, 3) := by decide +kernel
theorem d_S_copyBlock_14 : decode b_S_copyBlock 14 = .ok (.aload_n 0, 1) := by decide +kernel
theorem d_S_copyBlock_15 : decode b_S_copyBlock 15 = .ok (.iload_n 2, 1) := by decide +kernel
theorem d_S_copyBlock_16 : decode b_S_copyBlock 16 = .ok (.iload 4, 2) := by decide +kernel
theorem d_S_copyBlock_18 : decode b_S_copyBlock 18 = .ok (.aload_n 1, 1) := by decide +kernel
theorem d_S_copyBlock_19 : decode b_S_copyBlock 19 = .ok (.iload_n 2, 1) := by decide +kernel
theorem d_S_copyBlock_20 : decode b_S_copyBlock 20 = .ok (.iload 4, 2) := by decide +kernel
theorem d_S_copyBlock_22 : decode b_S_copyBlock 22 = .ok (.invokevirtual 49, 3) := by decide +kernel
theorem d_S_copyBlock_25 : decode b_S_copyBlock 25 = .ok (.invokevirtual 53, 3) := by decide +kernel
theorem d_S_copyBlock_28 : decode b_S_copyBlock 28 = .ok (.iinc 4 1, 3) := by decide +kernel
theorem d_S_copyBlock_31 : decode b_S_copyBlock 31 = .ok (.goto (-23), 3) := by decide +kernel
theorem d_S_copyBlock_34 : decode b_S_copyBlock 34 = .ok (.return_, 1) := by decide +kernel
abbrev b_S_entryCount : ByteArray := prog_2_method_23_code
abbrev y_S_entryCount : MethodName := ⟨"OrderedVolume$Store", "entryCount", "(I)I"⟩
abbrev o_S_entryCount : Cond := .code y_S_entryCount b_S_entryCount 4 (some .int)
abbrev rm_S_entryCount : Room := { frames := 1, cells := 0, slots := 0, locals := 23 }
theorem d_S_entryCount_0 : decode b_S_entryCount 0 = .ok (.iconst 0, 1) := by decide +kernel
theorem d_S_entryCount_1 : decode b_S_entryCount 1 = .ok (.istore_n 2, 1) := by decide +kernel
theorem d_S_entryCount_2 : decode b_S_entryCount 2 = .ok (.iconst 0, 1) := by decide +kernel
theorem d_S_entryCount_3 : decode b_S_entryCount 3 = .ok (.istore_n 3, 1) := by decide +kernel
theorem d_S_entryCount_4 : decode b_S_entryCount 4 = .ok (.iload_n 3, 1) := by decide +kernel
theorem d_S_entryCount_5 : decode b_S_entryCount 5 = .ok (.bipush 8, 2) := by decide +kernel
theorem d_S_entryCount_7 : decode b_S_entryCount 7 = .ok (.if_icmp .ge 21, 3) := by decide +kernel
theorem d_S_entryCount_10 : decode b_S_entryCount 10 = .ok (.aload_n 0, 1) := by decide +kernel
theorem d_S_entryCount_11 : decode b_S_entryCount 11 = .ok (.iload_n 1, 1) := by decide +kernel
theorem d_S_entryCount_12 : decode b_S_entryCount 12 = .ok (.iload_n 3, 1) := by decide +kernel
theorem d_S_entryCount_13 : decode b_S_entryCount 13 = .ok (.invokevirtual 56, 3) := by decide +kernel
theorem d_S_entryCount_16 : decode b_S_entryCount 16 = .ok (.ifCond .eq 6, 3) := by decide +kernel
theorem d_S_entryCount_19 : decode b_S_entryCount 19 = .ok (.iinc 2 1, 3) := by decide +kernel
theorem d_S_entryCount_22 : decode b_S_entryCount 22 = .ok (.iinc 3 1, 3) := by decide +kernel
theorem d_S_entryCount_25 : decode b_S_entryCount 25 = .ok (.goto (-21), 3) := by decide +kernel
theorem d_S_entryCount_28 : decode b_S_entryCount 28 = .ok (.iload_n 2, 1) := by decide +kernel
theorem d_S_entryCount_29 : decode b_S_entryCount 29 = .ok (.ireturn, 1) := by decide +kernel
abbrev b_S_freeBlock : ByteArray := prog_2_method_30_code
abbrev y_S_freeBlock : MethodName := ⟨"OrderedVolume$Store", "freeBlock", "(I)I"⟩
abbrev o_S_freeBlock : Cond := .code y_S_freeBlock b_S_freeBlock 5 (some .int)
abbrev rm_S_freeBlock : Room := { frames := 1, cells := 0, slots := 0, locals := 21 }
theorem d_S_freeBlock_0 : decode b_S_freeBlock 0 = .ok (.iconst 0, 1) := by decide +kernel
theorem d_S_freeBlock_1 : decode b_S_freeBlock 1 = .ok (.istore_n 2, 1) := by decide +kernel
theorem d_S_freeBlock_2 : decode b_S_freeBlock 2 = .ok (.iload_n 2, 1) := by decide +kernel
theorem d_S_freeBlock_3 : decode b_S_freeBlock 3 = .ok (.iconst 3, 1) := by decide +kernel
theorem d_S_freeBlock_4 : decode b_S_freeBlock 4 = .ok (.if_icmp .ge 50, 3) := by decide +kernel
theorem d_S_freeBlock_7 : decode b_S_freeBlock 7 = .ok (.iload_n 1, 1) := by decide +kernel
theorem d_S_freeBlock_8 : decode b_S_freeBlock 8 = .ok (.iload_n 2, 1) := by decide +kernel
theorem d_S_freeBlock_9 : decode b_S_freeBlock 9 = .ok (.iadd, 1) := by decide +kernel
theorem d_S_freeBlock_10 : decode b_S_freeBlock 10 = .ok (.iconst 3, 1) := by decide +kernel
theorem d_S_freeBlock_11 : decode b_S_freeBlock 11 = .ok (.irem, 1) := by decide +kernel
theorem d_S_freeBlock_12 : decode b_S_freeBlock 12 = .ok (.bipush 12, 2) := by decide +kernel
theorem d_S_freeBlock_14 : decode b_S_freeBlock 14 = .ok (.imul, 1) := by decide +kernel
theorem d_S_freeBlock_15 : decode b_S_freeBlock 15 = .ok (.istore_n 3, 1) := by decide +kernel
theorem d_S_freeBlock_16 : decode b_S_freeBlock 16 = .ok (.iload_n 3, 1) := by decide +kernel
theorem d_S_freeBlock_17 : decode b_S_freeBlock 17 = .ok (.iconst 2, 1) := by decide +kernel
theorem d_S_freeBlock_18 : decode b_S_freeBlock 18 = .ok (.iadd, 1) := by decide +kernel
theorem d_S_freeBlock_19 : decode b_S_freeBlock 19 = .ok (.istore 4, 2) := by decide +kernel
theorem d_S_freeBlock_21 : decode b_S_freeBlock 21 = .ok (.iload 4, 2) := by decide +kernel
theorem d_S_freeBlock_23 : decode b_S_freeBlock 23 = .ok (.iload_n 3, 1) := by decide +kernel
theorem d_S_freeBlock_24 : decode b_S_freeBlock 24 = .ok (.bipush 12, 2) := by decide +kernel
theorem d_S_freeBlock_26 : decode b_S_freeBlock 26 = .ok (.iadd, 1) := by decide +kernel
theorem d_S_freeBlock_27 : decode b_S_freeBlock 27 = .ok (.if_icmp .ge 21, 3) := by decide +kernel
theorem d_S_freeBlock_30 : decode b_S_freeBlock 30 = .ok (.aload_n 0, 1) := by decide +kernel
theorem d_S_freeBlock_31 : decode b_S_freeBlock 31 = .ok (.iload 4, 2) := by decide +kernel
theorem d_S_freeBlock_33 : decode b_S_freeBlock 33 = .ok (.invokevirtual 79, 3) := by decide +kernel
theorem d_S_freeBlock_36 : decode b_S_freeBlock 36 = .ok (.ifCond .ne 6, 3) := by decide +kernel
theorem d_S_freeBlock_39 : decode b_S_freeBlock 39 = .ok (.iload 4, 2) := by decide +kernel
theorem d_S_freeBlock_41 : decode b_S_freeBlock 41 = .ok (.ireturn, 1) := by decide +kernel
theorem d_S_freeBlock_42 : decode b_S_freeBlock 42 = .ok (.iinc 4 1, 3) := by decide +kernel
theorem d_S_freeBlock_45 : decode b_S_freeBlock 45 = .ok (.goto (-24), 3) := by decide +kernel
theorem d_S_freeBlock_48 : decode b_S_freeBlock 48 = .ok (.iinc 2 1, 3) := by decide +kernel
theorem d_S_freeBlock_51 : decode b_S_freeBlock 51 = .ok (.goto (-49), 3) := by decide +kernel
theorem d_S_freeBlock_54 : decode b_S_freeBlock 54 = .ok (.iconst (-1), 1) := by decide +kernel
theorem d_S_freeBlock_55 : decode b_S_freeBlock 55 = .ok (.ireturn, 1) := by decide +kernel
abbrev b_S_isFreeInode : ByteArray := prog_2_method_27_code
abbrev y_S_isFreeInode : MethodName := ⟨"OrderedVolume$Store", "isFreeInode", "(I)Z"⟩
abbrev o_S_isFreeInode : Cond := .code y_S_isFreeInode b_S_isFreeInode 2 (some .boolean)
abbrev rm_S_isFreeInode : Room := { frames := 1, cells := 0, slots := 0, locals := 21 }
theorem d_S_isFreeInode_0 : decode b_S_isFreeInode 0 = .ok (.aload_n 0, 1) := by decide +kernel
theorem d_S_isFreeInode_1 : decode b_S_isFreeInode 1 = .ok (.iload_n 1, 1) := by decide +kernel
theorem d_S_isFreeInode_2 : decode b_S_isFreeInode 2 = .ok (.invokevirtual 70, 3) := by decide +kernel
theorem d_S_isFreeInode_5 : decode b_S_isFreeInode 5 = .ok (.ifCond .ne 15, 3) := by decide +kernel
theorem d_S_isFreeInode_8 : decode b_S_isFreeInode 8 = .ok (.aload_n 0, 1) := by decide +kernel
theorem d_S_isFreeInode_9 : decode b_S_isFreeInode 9 = .ok (.iload_n 1, 1) := by decide +kernel
theorem d_S_isFreeInode_10 : decode b_S_isFreeInode 10 = .ok (.invokevirtual 73, 3) := by decide +kernel
theorem d_S_isFreeInode_13 : decode b_S_isFreeInode 13 = .ok (.ifCond .ne 7, 3) := by decide +kernel
theorem d_S_isFreeInode_16 : decode b_S_isFreeInode 16 = .ok (.iconst 1, 1) := by decide +kernel
theorem d_S_isFreeInode_17 : decode b_S_isFreeInode 17 = .ok (.goto 4, 3) := by decide +kernel
theorem d_S_isFreeInode_20 : decode b_S_isFreeInode 20 = .ok (.iconst 0, 1) := by decide +kernel
theorem d_S_isFreeInode_21 : decode b_S_isFreeInode 21 = .ok (.ireturn, 1) := by decide +kernel
abbrev b_S_freeInode : ByteArray := prog_2_method_28_code
abbrev y_S_freeInode : MethodName := ⟨"OrderedVolume$Store", "freeInode", "(I)I"⟩
abbrev o_S_freeInode : Cond := .code y_S_freeInode b_S_freeInode 5 (some .int)
abbrev rm_S_freeInode : Room := { frames := 2, cells := 0, slots := 0, locals := 42 }
theorem d_S_freeInode_0 : decode b_S_freeInode 0 = .ok (.iconst 0, 1) := by decide +kernel
theorem d_S_freeInode_1 : decode b_S_freeInode 1 = .ok (.istore_n 2, 1) := by decide +kernel
theorem d_S_freeInode_2 : decode b_S_freeInode 2 = .ok (.iload_n 2, 1) := by decide +kernel
theorem d_S_freeInode_3 : decode b_S_freeInode 3 = .ok (.iconst 3, 1) := by decide +kernel
theorem d_S_freeInode_4 : decode b_S_freeInode 4 = .ok (.if_icmp .ge 48, 3) := by decide +kernel
theorem d_S_freeInode_7 : decode b_S_freeInode 7 = .ok (.iload_n 1, 1) := by decide +kernel
theorem d_S_freeInode_8 : decode b_S_freeInode 8 = .ok (.iload_n 2, 1) := by decide +kernel
theorem d_S_freeInode_9 : decode b_S_freeInode 9 = .ok (.iadd, 1) := by decide +kernel
theorem d_S_freeInode_10 : decode b_S_freeInode 10 = .ok (.iconst 3, 1) := by decide +kernel
theorem d_S_freeInode_11 : decode b_S_freeInode 11 = .ok (.irem, 1) := by decide +kernel
theorem d_S_freeInode_12 : decode b_S_freeInode 12 = .ok (.bipush 6, 2) := by decide +kernel
theorem d_S_freeInode_14 : decode b_S_freeInode 14 = .ok (.imul, 1) := by decide +kernel
theorem d_S_freeInode_15 : decode b_S_freeInode 15 = .ok (.istore_n 3, 1) := by decide +kernel
theorem d_S_freeInode_16 : decode b_S_freeInode 16 = .ok (.iload_n 3, 1) := by decide +kernel
theorem d_S_freeInode_17 : decode b_S_freeInode 17 = .ok (.istore 4, 2) := by decide +kernel
theorem d_S_freeInode_19 : decode b_S_freeInode 19 = .ok (.iload 4, 2) := by decide +kernel
theorem d_S_freeInode_21 : decode b_S_freeInode 21 = .ok (.iload_n 3, 1) := by decide +kernel
theorem d_S_freeInode_22 : decode b_S_freeInode 22 = .ok (.bipush 6, 2) := by decide +kernel
theorem d_S_freeInode_24 : decode b_S_freeInode 24 = .ok (.iadd, 1) := by decide +kernel
theorem d_S_freeInode_25 : decode b_S_freeInode 25 = .ok (.if_icmp .ge 21, 3) := by decide +kernel
theorem d_S_freeInode_28 : decode b_S_freeInode 28 = .ok (.aload_n 0, 1) := by decide +kernel
theorem d_S_freeInode_29 : decode b_S_freeInode 29 = .ok (.iload 4, 2) := by decide +kernel
theorem d_S_freeInode_31 : decode b_S_freeInode 31 = .ok (.invokevirtual 76, 3) := by decide +kernel
theorem d_S_freeInode_34 : decode b_S_freeInode 34 = .ok (.ifCond .eq 6, 3) := by decide +kernel
theorem d_S_freeInode_37 : decode b_S_freeInode 37 = .ok (.iload 4, 2) := by decide +kernel
theorem d_S_freeInode_39 : decode b_S_freeInode 39 = .ok (.ireturn, 1) := by decide +kernel
theorem d_S_freeInode_40 : decode b_S_freeInode 40 = .ok (.iinc 4 1, 3) := by decide +kernel
theorem d_S_freeInode_43 : decode b_S_freeInode 43 = .ok (.goto (-24), 3) := by decide +kernel
theorem d_S_freeInode_46 : decode b_S_freeInode 46 = .ok (.iinc 2 1, 3) := by decide +kernel
theorem d_S_freeInode_49 : decode b_S_freeInode 49 = .ok (.goto (-47), 3) := by decide +kernel
theorem d_S_freeInode_52 : decode b_S_freeInode 52 = .ok (.iconst (-1), 1) := by decide +kernel
theorem d_S_freeInode_53 : decode b_S_freeInode 53 = .ok (.ireturn, 1) := by decide +kernel
abbrev b_S_isBlank : ByteArray := prog_2_method_9_code
abbrev y_S_isBlank : MethodName := ⟨"OrderedVolume$Store", "isBlank", "(I)Z"⟩
abbrev o_S_isBlank : Cond := .code y_S_isBlank b_S_isBlank 2 (some .boolean)
abbrev rm_S_isBlank : Room := { frames := 0, cells := 0, slots := 0, locals := 0 }
theorem d_S_isBlank_0 : decode b_S_isBlank 0 = .ok (.aload_n 0, 1) := by decide +kernel
theorem d_S_isBlank_1 : decode b_S_isBlank 1 = .ok (.getfield 21, 3) := by decide +kernel
theorem d_S_isBlank_4 : decode b_S_isBlank 4 = .ok (.iload_n 1, 1) := by decide +kernel
theorem d_S_isBlank_5 : decode b_S_isBlank 5 = .ok (.baload, 1) := by decide +kernel
theorem d_S_isBlank_6 : decode b_S_isBlank 6 = .ok (.ireturn, 1) := by decide +kernel
abbrev b_S_links : ByteArray := prog_2_method_17_code
abbrev y_S_links : MethodName := ⟨"OrderedVolume$Store", "links", "(I)I"⟩
abbrev o_S_links : Cond := .code y_S_links b_S_links 2 (some .int)
abbrev rm_S_links : Room := { frames := 0, cells := 0, slots := 0, locals := 0 }
theorem d_S_links_0 : decode b_S_links 0 = .ok (.aload_n 0, 1) := by decide +kernel
theorem d_S_links_1 : decode b_S_links 1 = .ok (.getfield 15, 3) := by decide +kernel
theorem d_S_links_4 : decode b_S_links 4 = .ok (.iload_n 1, 1) := by decide +kernel
theorem d_S_links_5 : decode b_S_links 5 = .ok (.iconst 5, 1) := by decide +kernel
theorem d_S_links_6 : decode b_S_links 6 = .ok (.imul, 1) := by decide +kernel
theorem d_S_links_7 : decode b_S_links 7 = .ok (.iconst 1, 1) := by decide +kernel
theorem d_S_links_8 : decode b_S_links 8 = .ok (.iadd, 1) := by decide +kernel
theorem d_S_links_9 : decode b_S_links 9 = .ok (.iaload, 1) := by decide +kernel
theorem d_S_links_10 : decode b_S_links 10 = .ok (.ireturn, 1) := by decide +kernel
abbrev b_S_namer : ByteArray := prog_2_method_25_code
abbrev y_S_namer : MethodName := ⟨"OrderedVolume$Store", "namer", "(I)I"⟩
abbrev o_S_namer : Cond := .code y_S_namer b_S_namer 4 (some .int)
abbrev rm_S_namer : Room := { frames := 1, cells := 0, slots := 0, locals := 22 }
theorem d_S_namer_0 : decode b_S_namer 0 = .ok (.iconst 0, 1) := by decide +kernel
theorem d_S_namer_1 : decode b_S_namer 1 = .ok (.istore_n 2, 1) := by decide +kernel
theorem d_S_namer_2 : decode b_S_namer 2 = .ok (.iload_n 2, 1) := by decide +kernel
theorem d_S_namer_3 : decode b_S_namer 3 = .ok (.bipush 18, 2) := by decide +kernel
theorem d_S_namer_5 : decode b_S_namer 5 = .ok (.if_icmp .ge 34, 3) := by decide +kernel
theorem d_S_namer_8 : decode b_S_namer 8 = .ok (.iconst 0, 1) := by decide +kernel
theorem d_S_namer_9 : decode b_S_namer 9 = .ok (.istore_n 3, 1) := by decide +kernel
theorem d_S_namer_10 : decode b_S_namer 10 = .ok (.iload_n 3, 1) := by decide +kernel
theorem d_S_namer_11 : decode b_S_namer 11 = .ok (.iconst 3, 1) := by decide +kernel
theorem d_S_namer_12 : decode b_S_namer 12 = .ok (.if_icmp .ge 21, 3) := by decide +kernel
theorem d_S_namer_15 : decode b_S_namer 15 = .ok (.aload_n 0, 1) := by decide +kernel
theorem d_S_namer_16 : decode b_S_namer 16 = .ok (.iload_n 2, 1) := by decide +kernel
theorem d_S_namer_17 : decode b_S_namer 17 = .ok (.iload_n 3, 1) := by decide +kernel
theorem d_S_namer_18 : decode b_S_namer 18 = .ok (.invokevirtual 63, 3) := by decide +kernel
theorem d_S_namer_21 : decode b_S_namer 21 = .ok (.iload_n 1, 1) := by decide +kernel
theorem d_S_namer_22 : decode b_S_namer 22 = .ok (.if_icmp .ne 5, 3) := by decide +kernel
theorem d_S_namer_25 : decode b_S_namer 25 = .ok (.iload_n 2, 1) := by decide +kernel
theorem d_S_namer_26 : decode b_S_namer 26 = .ok (.ireturn, 1) := by decide +kernel
theorem d_S_namer_27 : decode b_S_namer 27 = .ok (.iinc 3 1, 3) := by decide +kernel
theorem d_S_namer_30 : decode b_S_namer 30 = .ok (.goto (-20), 3) := by decide +kernel
theorem d_S_namer_33 : decode b_S_namer 33 = .ok (.iinc 2 1, 3) := by decide +kernel
theorem d_S_namer_36 : decode b_S_namer 36 = .ok (.goto (-34), 3) := by decide +kernel
theorem d_S_namer_39 : decode b_S_namer 39 = .ok (.iconst (-1), 1) := by decide +kernel
theorem d_S_namer_40 : decode b_S_namer 40 = .ok (.ireturn, 1) := by decide +kernel
abbrev b_S_reach : ByteArray := prog_2_method_26_code
abbrev y_S_reach : MethodName := ⟨"OrderedVolume$Store", "reach", "(I)I"⟩
abbrev o_S_reach : Cond := .code y_S_reach b_S_reach 8 (some .int)
abbrev rm_S_reach : Room := { frames := 1, cells := 0, slots := 0, locals := 23 }
theorem d_S_reach_0 : decode b_S_reach 0 = .ok (.iconst 1, 1) := by decide +kernel
theorem d_S_reach_1 : decode b_S_reach 1 = .ok (.iload_n 1, 1) := by decide +kernel
theorem d_S_reach_2 : decode b_S_reach 2 = .ok (.ishl, 1) := by decide +kernel
theorem d_S_reach_3 : decode b_S_reach 3 = .ok (.istore_n 2, 1) := by decide +kernel
theorem d_S_reach_4 : decode b_S_reach 4 = .ok (.iconst 1, 1) := by decide +kernel
theorem d_S_reach_5 : decode b_S_reach 5 = .ok (.istore_n 3, 1) := by decide +kernel
theorem d_S_reach_6 : decode b_S_reach 6 = .ok (.aload_n 0, 1) := by decide +kernel
theorem d_S_reach_7 : decode b_S_reach 7 = .ok (.getfield 25, 3) := by decide +kernel
theorem d_S_reach_10 : decode b_S_reach 10 = .ok (.iconst 0, 1) := by decide +kernel
theorem d_S_reach_11 : decode b_S_reach 11 = .ok (.iload_n 1, 1) := by decide +kernel
theorem d_S_reach_12 : decode b_S_reach 12 = .ok (.iastore, 1) := by decide +kernel
theorem d_S_reach_13 : decode b_S_reach 13 = .ok (.iconst 0, 1) := by decide +kernel
theorem d_S_reach_14 : decode b_S_reach 14 = .ok (.istore 4, 2) := by decide +kernel
theorem d_S_reach_16 : decode b_S_reach 16 = .ok (.iload 4, 2) := by decide +kernel
theorem d_S_reach_18 : decode b_S_reach 18 = .ok (.iload_n 3, 1) := by decide +kernel
theorem d_S_reach_19 : decode b_S_reach 19 = .ok (.if_icmp .ge 93, 3) := by decide +kernel
theorem d_S_reach_22 : decode b_S_reach 22 = .ok (.iload 4, 2) := by decide +kernel
theorem d_S_reach_24 : decode b_S_reach 24 = .ok (.bipush 18, 2) := by decide +kernel
theorem d_S_reach_26 : decode b_S_reach 26 = .ok (.if_icmp .ge 86, 3) := by decide +kernel
theorem d_S_reach_29 : decode b_S_reach 29 = .ok (.iconst 0, 1) := by decide +kernel
theorem d_S_reach_30 : decode b_S_reach 30 = .ok (.istore 5, 2) := by decide +kernel
theorem d_S_reach_32 : decode b_S_reach 32 = .ok (.iload 5, 2) := by decide +kernel
theorem d_S_reach_34 : decode b_S_reach 34 = .ok (.bipush 8, 2) := by decide +kernel
theorem d_S_reach_36 : decode b_S_reach 36 = .ok (.if_icmp .ge 70, 3) := by decide +kernel
theorem d_S_reach_39 : decode b_S_reach 39 = .ok (.aload_n 0, 1) := by decide +kernel
theorem d_S_reach_40 : decode b_S_reach 40 = .ok (.aload_n 0, 1) := by decide +kernel
theorem d_S_reach_41 : decode b_S_reach 41 = .ok (.getfield 25, 3) := by decide +kernel
theorem d_S_reach_44 : decode b_S_reach 44 = .ok (.iload 4, 2) := by decide +kernel
theorem d_S_reach_46 : decode b_S_reach 46 = .ok (.iaload, 1) := by decide +kernel
theorem d_S_reach_47 : decode b_S_reach 47 = .ok (.iload 5, 2) := by decide +kernel
theorem d_S_reach_49 : decode b_S_reach 49 = .ok (.invokevirtual 56, 3) := by decide +kernel
theorem d_S_reach_52 : decode b_S_reach 52 = .ok (.istore 6, 2) := by decide +kernel
theorem d_S_reach_54 : decode b_S_reach 54 = .ok (.iload 6, 2) := by decide +kernel
theorem d_S_reach_56 : decode b_S_reach 56 = .ok (.bipush 32, 2) := by decide +kernel
theorem d_S_reach_58 : decode b_S_reach 58 = .ok (.irem, 1) := by decide +kernel
theorem d_S_reach_59 : decode b_S_reach 59 = .ok (.istore 7, 2) := by decide +kernel
theorem d_S_reach_61 : decode b_S_reach 61 = .ok (.iload 6, 2) := by decide +kernel
theorem d_S_reach_63 : decode b_S_reach 63 = .ok (.ifCond .eq 37, 3) := by decide +kernel
theorem d_S_reach_66 : decode b_S_reach 66 = .ok (.iload 7, 2) := by decide +kernel
theorem d_S_reach_68 : decode b_S_reach 68 = .ok (.bipush 18, 2) := by decide +kernel
theorem d_S_reach_70 : decode b_S_reach 70 = .ok (.if_icmp .ge 30, 3) := by decide +kernel
theorem d_S_reach_73 : decode b_S_reach 73 = .ok (.iload_n 2, 1) := by decide +kernel
theorem d_S_reach_74 : decode b_S_reach 74 = .ok (.iload 7, 2) := by decide +kernel
theorem d_S_reach_76 : decode b_S_reach 76 = .ok (.invokestatic 66, 3) := by decide +kernel
theorem d_S_reach_79 : decode b_S_reach 79 = .ok (.ifCond .ne 21, 3) := by decide +kernel
theorem d_S_reach_82 : decode b_S_reach 82 = .ok (.iload_n 2, 1) := by decide +kernel
theorem d_S_reach_83 : decode b_S_reach 83 = .ok (.iconst 1, 1) := by decide +kernel
theorem d_S_reach_84 : decode b_S_reach 84 = .ok (.iload 7, 2) := by decide +kernel
theorem d_S_reach_86 : decode b_S_reach 86 = .ok (.ishl, 1) := by decide +kernel
theorem d_S_reach_87 : decode b_S_reach 87 = .ok (.ior, 1) := by decide +kernel
theorem d_S_reach_88 : decode b_S_reach 88 = .ok (.istore_n 2, 1) := by decide +kernel
theorem d_S_reach_89 : decode b_S_reach 89 = .ok (.aload_n 0, 1) := by decide +kernel
theorem d_S_reach_90 : decode b_S_reach 90 = .ok (.getfield 25, 3) := by decide +kernel
theorem d_S_reach_93 : decode b_S_reach 93 = .ok (.iload_n 3, 1) := by decide +kernel
theorem d_S_reach_94 : decode b_S_reach 94 = .ok (.iload 7, 2) := by decide +kernel
theorem d_S_reach_96 : decode b_S_reach 96 = .ok (.iastore, 1) := by decide +kernel
theorem d_S_reach_97 : decode b_S_reach 97 = .ok (.iinc 3 1, 3) := by decide +kernel
theorem d_S_reach_100 : decode b_S_reach 100 = .ok (.iinc 5 1, 3) := by decide +kernel
theorem d_S_reach_103 : decode b_S_reach 103 = .ok (.goto (-71), 3) := by decide +kernel
theorem d_S_reach_106 : decode b_S_reach 106 = .ok (.iinc 4 1, 3) := by decide +kernel
theorem d_S_reach_109 : decode b_S_reach 109 = .ok (.goto (-93), 3) := by decide +kernel
theorem d_S_reach_112 : decode b_S_reach 112 = .ok (.iload_n 2, 1) := by decide +kernel
theorem d_S_reach_113 : decode b_S_reach 113 = .ok (.ireturn, 1) := by decide +kernel
abbrev b_S_roomiestGroup : ByteArray := prog_2_method_29_code
abbrev y_S_roomiestGroup : MethodName := ⟨"OrderedVolume$Store", "roomiestGroup", "()I"⟩
abbrev o_S_roomiestGroup : Cond := .code y_S_roomiestGroup b_S_roomiestGroup 6 (some .int)
abbrev rm_S_roomiestGroup : Room := { frames := 2, cells := 0, slots := 0, locals := 42 }
theorem d_S_roomiestGroup_0 : decode b_S_roomiestGroup 0 = .ok (.iconst 0, 1) := by decide +kernel
theorem d_S_roomiestGroup_1 : decode b_S_roomiestGroup 1 = .ok (.istore_n 1, 1) := by decide +kernel
theorem d_S_roomiestGroup_2 : decode b_S_roomiestGroup 2 = .ok (.iconst 0, 1) := by decide +kernel
theorem d_S_roomiestGroup_3 : decode b_S_roomiestGroup 3 = .ok (.istore_n 2, 1) := by decide +kernel
theorem d_S_roomiestGroup_4 : decode b_S_roomiestGroup 4 = .ok (.iconst 0, 1) := by decide +kernel
theorem d_S_roomiestGroup_5 : decode b_S_roomiestGroup 5 = .ok (.istore_n 3, 1) := by decide +kernel
theorem d_S_roomiestGroup_6 : decode b_S_roomiestGroup 6 = .ok (.iload_n 3, 1) := by decide +kernel
theorem d_S_roomiestGroup_7 : decode b_S_roomiestGroup 7 = .ok (.iconst 3, 1) := by decide +kernel
theorem d_S_roomiestGroup_8 : decode b_S_roomiestGroup 8 = .ok (.if_icmp .ge 63, 3) := by decide +kernel
theorem d_S_roomiestGroup_11 : decode b_S_roomiestGroup 11 = .ok (.iconst 0, 1) := by decide +kernel
theorem d_S_roomiestGroup_12 : decode b_S_roomiestGroup 12 = .ok (.istore 4, 2) := by decide +kernel
theorem d_S_roomiestGroup_14 : decode b_S_roomiestGroup 14 = .ok (.iconst 0, 1) := by decide +kernel
theorem d_S_roomiestGroup_15 : decode b_S_roomiestGroup 15 = .ok (.istore 5, 2) := by decide +kernel
theorem d_S_roomiestGroup_17 : decode b_S_roomiestGroup 17 = .ok (.iload 5, 2) := by decide +kernel
theorem d_S_roomiestGroup_19 : decode b_S_roomiestGroup 19 = .ok (.bipush 6, 2) := by decide +kernel
theorem d_S_roomiestGroup_21 : decode b_S_roomiestGroup 21 = .ok (.if_icmp .ge 33, 3) := by decide +kernel
theorem d_S_roomiestGroup_24 : decode b_S_roomiestGroup 24 = .ok (.iload 4, 2) := by decide +kernel
theorem d_S_roomiestGroup_26 : decode b_S_roomiestGroup 26 = .ok (.aload_n 0, 1) := by decide +kernel
theorem d_S_roomiestGroup_27 : decode b_S_roomiestGroup 27 = .ok (.iload_n 3, 1) := by decide +kernel
theorem d_S_roomiestGroup_28 : decode b_S_roomiestGroup 28 = .ok (.bipush 6, 2) := by decide +kernel
theorem d_S_roomiestGroup_30 : decode b_S_roomiestGroup 30 = .ok (.imul, 1) := by decide +kernel
theorem d_S_roomiestGroup_31 : decode b_S_roomiestGroup 31 = .ok (.iload 5, 2) := by decide +kernel
theorem d_S_roomiestGroup_33 : decode b_S_roomiestGroup 33 = .ok (.iadd, 1) := by decide +kernel
theorem d_S_roomiestGroup_34 : decode b_S_roomiestGroup 34 = .ok (.invokevirtual 76, 3) := by decide +kernel
theorem d_S_roomiestGroup_37 : decode b_S_roomiestGroup 37 = .ok (.ifCond .eq 7, 3) := by decide +kernel
theorem d_S_roomiestGroup_40 : decode b_S_roomiestGroup 40 = .ok (.iconst 1, 1) := by decide +kernel
theorem d_S_roomiestGroup_41 : decode b_S_roomiestGroup 41 = .ok (.goto 4, 3) := by decide +kernel
theorem d_S_roomiestGroup_44 : decode b_S_roomiestGroup 44 = .ok (.iconst 0, 1) := by decide +kernel
theorem d_S_roomiestGroup_45 : decode b_S_roomiestGroup 45 = .ok (.iadd, 1) := by decide +kernel
theorem d_S_roomiestGroup_46 : decode b_S_roomiestGroup 46 = .ok (.istore 4, 2) := by decide +kernel
theorem d_S_roomiestGroup_48 : decode b_S_roomiestGroup 48 = .ok (.iinc 5 1, 3) := by decide +kernel
theorem d_S_roomiestGroup_51 : decode b_S_roomiestGroup 51 = .ok (.goto (-34), 3) := by decide +kernel
theorem d_S_roomiestGroup_54 : decode b_S_roomiestGroup 54 = .ok (.iload 4, 2) := by decide +kernel
theorem d_S_roomiestGroup_56 : decode b_S_roomiestGroup 56 = .ok (.iload_n 2, 1) := by decide +kernel
theorem d_S_roomiestGroup_57 : decode b_S_roomiestGroup 57 = .ok (.if_icmp .le 8, 3) := by decide +kernel
theorem d_S_roomiestGroup_60 : decode b_S_roomiestGroup 60 = .ok (.iload_n 3, 1) := by decide +kernel
theorem d_S_roomiestGroup_61 : decode b_S_roomiestGroup 61 = .ok (.istore_n 1, 1) := by decide +kernel
theorem d_S_roomiestGroup_62 : decode b_S_roomiestGroup 62 = .ok (.iload 4, 2) := by decide +kernel
theorem d_S_roomiestGroup_64 : decode b_S_roomiestGroup 64 = .ok (.istore_n 2, 1) := by decide +kernel
theorem d_S_roomiestGroup_65 : decode b_S_roomiestGroup 65 = .ok (.iinc 3 1, 3) := by decide +kernel
theorem d_S_roomiestGroup_68 : decode b_S_roomiestGroup 68 = .ok (.goto (-62), 3) := by decide +kernel
theorem d_S_roomiestGroup_71 : decode b_S_roomiestGroup 71 = .ok (.iload_n 1, 1) := by decide +kernel
theorem d_S_roomiestGroup_72 : decode b_S_roomiestGroup 72 = .ok (.ireturn, 1) := by decide +kernel
abbrev b_S_sameBlock : ByteArray := prog_2_method_5_code
abbrev y_S_sameBlock : MethodName := ⟨"OrderedVolume$Store", "sameBlock", "(LOrderedVolume$Store;I)Z"⟩
abbrev o_S_sameBlock : Cond := .code y_S_sameBlock b_S_sameBlock 5 (some .boolean)
abbrev rm_S_sameBlock : Room := { frames := 1, cells := 0, slots := 0, locals := 24 }
theorem d_S_sameBlock_0 : decode b_S_sameBlock 0 = .ok (.iload_n 2, 1) := by decide +kernel
theorem d_S_sameBlock_1 : decode b_S_sameBlock 1 = .ok (.invokestatic 45, 3) := by decide +kernel
theorem d_S_sameBlock_4 : decode b_S_sameBlock 4 = .ok (.istore_n 3, 1) := by decide +kernel
theorem d_S_sameBlock_5 : decode b_S_sameBlock 5 = .ok (.iconst 0, 1) := by decide +kernel
theorem d_S_sameBlock_6 : decode b_S_sameBlock 6 = .ok (.istore 4, 2) := by decide +kernel
theorem d_S_sameBlock_8 : decode b_S_sameBlock 8 = .ok (.iload 4, 2) := by decide +kernel
theorem d_S_sameBlock_10 : decode b_S_sameBlock 10 = .ok (.iload_n 3, 1) := by decide +kernel
theorem d_S_sameBlock_11 : decode b_S_sameBlock 11 = .ok (.if_icmp .ge 28, 3) := by decide +kernel
theorem d_S_sameBlock_14 : decode b_S_sameBlock 14 = .ok (.aload_n 0, 1) := by decide +kernel
theorem d_S_sameBlock_15 : decode b_S_sameBlock 15 = .ok (.iload_n 2, 1) := by decide +kernel
theorem d_S_sameBlock_16 : decode b_S_sameBlock 16 = .ok (.iload 4, 2) := by decide +kernel
theorem d_S_sameBlock_18 : decode b_S_sameBlock 18 = .ok (.invokevirtual 49, 3) := by decide +kernel
theorem d_S_sameBlock_21 : decode b_S_sameBlock 21 = .ok (.aload_n 1, 1) := by decide +kernel
theorem d_S_sameBlock_22 : decode b_S_sameBlock 22 = .ok (.iload_n 2, 1) := by decide +kernel
theorem d_S_sameBlock_23 : decode b_S_sameBlock 23 = .ok (.iload 4, 2) := by decide +kernel
theorem d_S_sameBlock_25 : decode b_S_sameBlock 25 = .ok (.invokevirtual 49, 3) := by decide +kernel
theorem d_S_sameBlock_28 : decode b_S_sameBlock 28 = .ok (.if_icmp .eq 5, 3) := by decide +kernel
theorem d_S_sameBlock_31 : decode b_S_sameBlock 31 = .ok (.iconst 0, 1) := by decide +kernel
theorem d_S_sameBlock_32 : decode b_S_sameBlock 32 = .ok (.ireturn, 1) := by decide +kernel
theorem d_S_sameBlock_33 : decode b_S_sameBlock 33 = .ok (.iinc 4 1, 3) := by decide +kernel
theorem d_S_sameBlock_36 : decode b_S_sameBlock 36 = .ok (.goto (-28), 3) := by decide +kernel
theorem d_S_sameBlock_39 : decode b_S_sameBlock 39 = .ok (.iconst 1, 1) := by decide +kernel
theorem d_S_sameBlock_40 : decode b_S_sameBlock 40 = .ok (.ireturn, 1) := by decide +kernel
abbrev b_S_setBlank : ByteArray := prog_2_method_10_code
abbrev y_S_setBlank : MethodName := ⟨"OrderedVolume$Store", "setBlank", "(IZ)V"⟩
abbrev o_S_setBlank : Cond := .code y_S_setBlank b_S_setBlank 3 none
abbrev rm_S_setBlank : Room := { frames := 0, cells := 0, slots := 0, locals := 0 }
theorem d_S_setBlank_0 : decode b_S_setBlank 0 = .ok (.aload_n 0, 1) := by decide +kernel
theorem d_S_setBlank_1 : decode b_S_setBlank 1 = .ok (.getfield 21, 3) := by decide +kernel
theorem d_S_setBlank_4 : decode b_S_setBlank 4 = .ok (.iload_n 1, 1) := by decide +kernel
theorem d_S_setBlank_5 : decode b_S_setBlank 5 = .ok (.iload_n 2, 1) := by decide +kernel
theorem d_S_setBlank_6 : decode b_S_setBlank 6 = .ok (.bastore, 1) := by decide +kernel
theorem d_S_setBlank_7 : decode b_S_setBlank 7 = .ok (.return_, 1) := by decide +kernel
abbrev b_S_setBlockMark : ByteArray := prog_2_method_14_code
abbrev y_S_setBlockMark : MethodName := ⟨"OrderedVolume$Store", "setBlockMark", "(II)V"⟩
abbrev o_S_setBlockMark : Cond := .code y_S_setBlockMark b_S_setBlockMark 3 none
abbrev rm_S_setBlockMark : Room := { frames := 0, cells := 0, slots := 0, locals := 0 }
theorem d_S_setBlockMark_0 : decode b_S_setBlockMark 0 = .ok (.aload_n 0, 1) := by decide +kernel
theorem d_S_setBlockMark_1 : decode b_S_setBlockMark 1 = .ok (.getfield 9, 3) := by decide +kernel
theorem d_S_setBlockMark_4 : decode b_S_setBlockMark 4 = .ok (.iload_n 1, 1) := by decide +kernel
theorem d_S_setBlockMark_5 : decode b_S_setBlockMark 5 = .ok (.bipush 12, 2) := by decide +kernel
theorem d_S_setBlockMark_7 : decode b_S_setBlockMark 7 = .ok (.idiv, 1) := by decide +kernel
theorem d_S_setBlockMark_8 : decode b_S_setBlockMark 8 = .ok (.bipush 16, 2) := by decide +kernel
theorem d_S_setBlockMark_10 : decode b_S_setBlockMark 10 = .ok (.imul, 1) := by decide +kernel
theorem d_S_setBlockMark_11 : decode b_S_setBlockMark 11 = .ok (.bipush 6, 2) := by decide +kernel
theorem d_S_setBlockMark_13 : decode b_S_setBlockMark 13 = .ok (.iadd, 1) := by decide +kernel
theorem d_S_setBlockMark_14 : decode b_S_setBlockMark 14 = .ok (.iload_n 1, 1) := by decide +kernel
theorem d_S_setBlockMark_15 : decode b_S_setBlockMark 15 = .ok (.bipush 12, 2) := by decide +kernel
theorem d_S_setBlockMark_17 : decode b_S_setBlockMark 17 = .ok (.irem, 1) := by decide +kernel
theorem d_S_setBlockMark_18 : decode b_S_setBlockMark 18 = .ok (.iadd, 1) := by decide +kernel
theorem d_S_setBlockMark_19 : decode b_S_setBlockMark 19 = .ok (.iconst 2, 1) := by decide +kernel
theorem d_S_setBlockMark_20 : decode b_S_setBlockMark 20 = .ok (.isub, 1) := by decide +kernel
theorem d_S_setBlockMark_21 : decode b_S_setBlockMark 21 = .ok (.iload_n 2, 1) := by decide +kernel
theorem d_S_setBlockMark_22 : decode b_S_setBlockMark 22 = .ok (.iastore, 1) := by decide +kernel
theorem d_S_setBlockMark_23 : decode b_S_setBlockMark 23 = .ok (.return_, 1) := by decide +kernel
abbrev b_S_setInodeMark : ByteArray := prog_2_method_12_code
abbrev y_S_setInodeMark : MethodName := ⟨"OrderedVolume$Store", "setInodeMark", "(II)V"⟩
abbrev o_S_setInodeMark : Cond := .code y_S_setInodeMark b_S_setInodeMark 3 none
abbrev rm_S_setInodeMark : Room := { frames := 0, cells := 0, slots := 0, locals := 0 }
theorem d_S_setInodeMark_0 : decode b_S_setInodeMark 0 = .ok (.aload_n 0, 1) := by decide +kernel
theorem d_S_setInodeMark_1 : decode b_S_setInodeMark 1 = .ok (.getfield 9, 3) := by decide +kernel
theorem d_S_setInodeMark_4 : decode b_S_setInodeMark 4 = .ok (.iload_n 1, 1) := by decide +kernel
theorem d_S_setInodeMark_5 : decode b_S_setInodeMark 5 = .ok (.bipush 6, 2) := by decide +kernel
theorem d_S_setInodeMark_7 : decode b_S_setInodeMark 7 = .ok (.idiv, 1) := by decide +kernel
theorem d_S_setInodeMark_8 : decode b_S_setInodeMark 8 = .ok (.bipush 16, 2) := by decide +kernel
theorem d_S_setInodeMark_10 : decode b_S_setInodeMark 10 = .ok (.imul, 1) := by decide +kernel
theorem d_S_setInodeMark_11 : decode b_S_setInodeMark 11 = .ok (.iload_n 1, 1) := by decide +kernel
theorem d_S_setInodeMark_12 : decode b_S_setInodeMark 12 = .ok (.bipush 6, 2) := by decide +kernel
theorem d_S_setInodeMark_14 : decode b_S_setInodeMark 14 = .ok (.irem, 1) := by decide +kernel
theorem d_S_setInodeMark_15 : decode b_S_setInodeMark 15 = .ok (.iadd, 1) := by decide +kernel
theorem d_S_setInodeMark_16 : decode b_S_setInodeMark 16 = .ok (.iload_n 2, 1) := by decide +kernel
theorem d_S_setInodeMark_17 : decode b_S_setInodeMark 17 = .ok (.iastore, 1) := by decide +kernel
theorem d_S_setInodeMark_18 : decode b_S_setInodeMark 18 = .ok (.return_, 1) := by decide +kernel
abbrev b_S_setKind : ByteArray := prog_2_method_16_code
abbrev y_S_setKind : MethodName := ⟨"OrderedVolume$Store", "setKind", "(II)V"⟩
abbrev o_S_setKind : Cond := .code y_S_setKind b_S_setKind 3 none
abbrev rm_S_setKind : Room := { frames := 0, cells := 0, slots := 0, locals := 0 }
theorem d_S_setKind_0 : decode b_S_setKind 0 = .ok (.aload_n 0, 1) := by decide +kernel
theorem d_S_setKind_1 : decode b_S_setKind 1 = .ok (.getfield 15, 3) := by decide +kernel
theorem d_S_setKind_4 : decode b_S_setKind 4 = .ok (.iload_n 1, 1) := by decide +kernel
theorem d_S_setKind_5 : decode b_S_setKind 5 = .ok (.iconst 5, 1) := by decide +kernel
theorem d_S_setKind_6 : decode b_S_setKind 6 = .ok (.imul, 1) := by decide +kernel
theorem d_S_setKind_7 : decode b_S_setKind 7 = .ok (.iload_n 2, 1) := by decide +kernel
theorem d_S_setKind_8 : decode b_S_setKind 8 = .ok (.iastore, 1) := by decide +kernel
theorem d_S_setKind_9 : decode b_S_setKind 9 = .ok (.return_, 1) := by decide +kernel
abbrev b_S_setLinks : ByteArray := prog_2_method_18_code
abbrev y_S_setLinks : MethodName := ⟨"OrderedVolume$Store", "setLinks", "(II)V"⟩
abbrev o_S_setLinks : Cond := .code y_S_setLinks b_S_setLinks 3 none
abbrev rm_S_setLinks : Room := { frames := 0, cells := 0, slots := 0, locals := 0 }
theorem d_S_setLinks_0 : decode b_S_setLinks 0 = .ok (.aload_n 0, 1) := by decide +kernel
theorem d_S_setLinks_1 : decode b_S_setLinks 1 = .ok (.getfield 15, 3) := by decide +kernel
theorem d_S_setLinks_4 : decode b_S_setLinks 4 = .ok (.iload_n 1, 1) := by decide +kernel
theorem d_S_setLinks_5 : decode b_S_setLinks 5 = .ok (.iconst 5, 1) := by decide +kernel
theorem d_S_setLinks_6 : decode b_S_setLinks 6 = .ok (.imul, 1) := by decide +kernel
theorem d_S_setLinks_7 : decode b_S_setLinks 7 = .ok (.iconst 1, 1) := by decide +kernel
theorem d_S_setLinks_8 : decode b_S_setLinks 8 = .ok (.iadd, 1) := by decide +kernel
theorem d_S_setLinks_9 : decode b_S_setLinks 9 = .ok (.iload_n 2, 1) := by decide +kernel
theorem d_S_setLinks_10 : decode b_S_setLinks 10 = .ok (.iastore, 1) := by decide +kernel
theorem d_S_setLinks_11 : decode b_S_setLinks 11 = .ok (.return_, 1) := by decide +kernel
abbrev b_S_setPointer : ByteArray := prog_2_method_20_code
abbrev y_S_setPointer : MethodName := ⟨"OrderedVolume$Store", "setPointer", "(III)V"⟩
abbrev o_S_setPointer : Cond := .code y_S_setPointer b_S_setPointer 4 none
abbrev rm_S_setPointer : Room := { frames := 0, cells := 0, slots := 0, locals := 0 }
theorem d_S_setPointer_0 : decode b_S_setPointer 0 = .ok (.aload_n 0, 1) := by decide +kernel
theorem d_S_setPointer_1 : decode b_S_setPointer 1 = .ok (.getfield 15, 3) := by decide +kernel
theorem d_S_setPointer_4 : decode b_S_setPointer 4 = .ok (.iload_n 1, 1) := by decide +kernel
theorem d_S_setPointer_5 : decode b_S_setPointer 5 = .ok (.iconst 5, 1) := by decide +kernel
theorem d_S_setPointer_6 : decode b_S_setPointer 6 = .ok (.imul, 1) := by decide +kernel
theorem d_S_setPointer_7 : decode b_S_setPointer 7 = .ok (.iconst 2, 1) := by decide +kernel
theorem d_S_setPointer_8 : decode b_S_setPointer 8 = .ok (.iadd, 1) := by decide +kernel
theorem d_S_setPointer_9 : decode b_S_setPointer 9 = .ok (.iload_n 2, 1) := by decide +kernel
theorem d_S_setPointer_10 : decode b_S_setPointer 10 = .ok (.iadd, 1) := by decide +kernel
theorem d_S_setPointer_11 : decode b_S_setPointer 11 = .ok (.iload_n 3, 1) := by decide +kernel
theorem d_S_setPointer_12 : decode b_S_setPointer 12 = .ok (.iastore, 1) := by decide +kernel
theorem d_S_setPointer_13 : decode b_S_setPointer 13 = .ok (.return_, 1) := by decide +kernel
abbrev b_S_setWord : ByteArray := prog_2_method_7_code
abbrev y_S_setWord : MethodName := ⟨"OrderedVolume$Store", "setWord", "(III)V"⟩
abbrev o_S_setWord : Cond := .code y_S_setWord b_S_setWord 4 none
abbrev rm_S_setWord : Room := { frames := 0, cells := 0, slots := 0, locals := 0 }
theorem d_S_setWord_0 : decode b_S_setWord 0 = .ok (.aload_n 0, 1) := by decide +kernel
theorem d_S_setWord_1 : decode b_S_setWord 1 = .ok (.getfield 18, 3) := by decide +kernel
theorem d_S_setWord_4 : decode b_S_setWord 4 = .ok (.iload_n 1, 1) := by decide +kernel
theorem d_S_setWord_5 : decode b_S_setWord 5 = .ok (.bipush 8, 2) := by decide +kernel
theorem d_S_setWord_7 : decode b_S_setWord 7 = .ok (.imul, 1) := by decide +kernel
theorem d_S_setWord_8 : decode b_S_setWord 8 = .ok (.iload_n 2, 1) := by decide +kernel
theorem d_S_setWord_9 : decode b_S_setWord 9 = .ok (.iadd, 1) := by decide +kernel
theorem d_S_setWord_10 : decode b_S_setWord 10 = .ok (.iload_n 3, 1) := by decide +kernel
theorem d_S_setWord_11 : decode b_S_setWord 11 = .ok (.iastore, 1) := by decide +kernel
theorem d_S_setWord_12 : decode b_S_setWord 12 = .ok (.return_, 1) := by decide +kernel
abbrev b_S_sharedBlocks : ByteArray := prog_2_method_35_code
abbrev y_S_sharedBlocks : MethodName := ⟨"OrderedVolume$Store", "sharedBlocks", "(I)I"⟩
abbrev o_S_sharedBlocks : Cond := .code y_S_sharedBlocks b_S_sharedBlocks 4 (some .int)
abbrev rm_S_sharedBlocks : Room := { frames := 2, cells := 0, slots := 0, locals := 47 }
theorem d_S_sharedBlocks_0 : decode b_S_sharedBlocks 0 = .ok (.iconst 0, 1) := by decide +kernel
theorem d_S_sharedBlocks_1 : decode b_S_sharedBlocks 1 = .ok (.istore_n 2, 1) := by decide +kernel
theorem d_S_sharedBlocks_2 : decode b_S_sharedBlocks 2 = .ok (.iconst 0, 1) := by decide +kernel
theorem d_S_sharedBlocks_3 : decode b_S_sharedBlocks 3 = .ok (.istore_n 3, 1) := by decide +kernel
theorem d_S_sharedBlocks_4 : decode b_S_sharedBlocks 4 = .ok (.iload_n 3, 1) := by decide +kernel
theorem d_S_sharedBlocks_5 : decode b_S_sharedBlocks 5 = .ok (.bipush 36, 2) := by decide +kernel
theorem d_S_sharedBlocks_7 : decode b_S_sharedBlocks 7 = .ok (.if_icmp .ge 29, 3) := by decide +kernel
theorem d_S_sharedBlocks_10 : decode b_S_sharedBlocks 10 = .ok (.iload_n 3, 1) := by decide +kernel
theorem d_S_sharedBlocks_11 : decode b_S_sharedBlocks 11 = .ok (.invokestatic 85, 3) := by decide +kernel
theorem d_S_sharedBlocks_14 : decode b_S_sharedBlocks 14 = .ok (.ifCond .eq 16, 3) := by decide +kernel
theorem d_S_sharedBlocks_17 : decode b_S_sharedBlocks 17 = .ok (.aload_n 0, 1) := by decide +kernel
theorem d_S_sharedBlocks_18 : decode b_S_sharedBlocks 18 = .ok (.iload_n 1, 1) := by decide +kernel
theorem d_S_sharedBlocks_19 : decode b_S_sharedBlocks 19 = .ok (.iload_n 3, 1) := by decide +kernel
theorem d_S_sharedBlocks_20 : decode b_S_sharedBlocks 20 = .ok (.invokevirtual 88, 3) := by decide +kernel
theorem d_S_sharedBlocks_23 : decode b_S_sharedBlocks 23 = .ok (.iconst 1, 1) := by decide +kernel
theorem d_S_sharedBlocks_24 : decode b_S_sharedBlocks 24 = .ok (.if_icmp .le 6, 3) := by decide +kernel
theorem d_S_sharedBlocks_27 : decode b_S_sharedBlocks 27 = .ok (.iinc 2 1, 3) := by decide +kernel
theorem d_S_sharedBlocks_30 : decode b_S_sharedBlocks 30 = .ok (.iinc 3 1, 3) := by decide +kernel
theorem d_S_sharedBlocks_33 : decode b_S_sharedBlocks 33 = .ok (.goto (-29), 3) := by decide +kernel
theorem d_S_sharedBlocks_36 : decode b_S_sharedBlocks 36 = .ok (.iload_n 2, 1) := by decide +kernel
theorem d_S_sharedBlocks_37 : decode b_S_sharedBlocks 37 = .ok (.ireturn, 1) := by decide +kernel
abbrev b_S_uselessBlocks : ByteArray := prog_2_method_36_code
abbrev y_S_uselessBlocks : MethodName := ⟨"OrderedVolume$Store", "uselessBlocks", "(I)I"⟩
abbrev o_S_uselessBlocks : Cond := .code y_S_uselessBlocks b_S_uselessBlocks 4 (some .int)
abbrev rm_S_uselessBlocks : Room := { frames := 2, cells := 0, slots := 0, locals := 47 }
theorem d_S_uselessBlocks_0 : decode b_S_uselessBlocks 0 = .ok (.iconst 0, 1) := by decide +kernel
theorem d_S_uselessBlocks_1 : decode b_S_uselessBlocks 1 = .ok (.istore_n 2, 1) := by decide +kernel
theorem d_S_uselessBlocks_2 : decode b_S_uselessBlocks 2 = .ok (.iconst 0, 1) := by decide +kernel
theorem d_S_uselessBlocks_3 : decode b_S_uselessBlocks 3 = .ok (.istore_n 3, 1) := by decide +kernel
theorem d_S_uselessBlocks_4 : decode b_S_uselessBlocks 4 = .ok (.iload_n 3, 1) := by decide +kernel
theorem d_S_uselessBlocks_5 : decode b_S_uselessBlocks 5 = .ok (.bipush 36, 2) := by decide +kernel
theorem d_S_uselessBlocks_7 : decode b_S_uselessBlocks 7 = .ok (.if_icmp .ge 36, 3) := by decide +kernel
theorem d_S_uselessBlocks_10 : decode b_S_uselessBlocks 10 = .ok (.iload_n 3, 1) := by decide +kernel
theorem d_S_uselessBlocks_11 : decode b_S_uselessBlocks 11 = .ok (.invokestatic 85, 3) := by decide +kernel
theorem d_S_uselessBlocks_14 : decode b_S_uselessBlocks 14 = .ok (.ifCond .eq 23, 3) := by decide +kernel
theorem d_S_uselessBlocks_17 : decode b_S_uselessBlocks 17 = .ok (.aload_n 0, 1) := by decide +kernel
theorem d_S_uselessBlocks_18 : decode b_S_uselessBlocks 18 = .ok (.iload_n 3, 1) := by decide +kernel
theorem d_S_uselessBlocks_19 : decode b_S_uselessBlocks 19 = .ok (.invokevirtual 79, 3) := by decide +kernel
theorem d_S_uselessBlocks_22 : decode b_S_uselessBlocks 22 = .ok (.ifCond .eq 15, 3) := by decide +kernel
theorem d_S_uselessBlocks_25 : decode b_S_uselessBlocks 25 = .ok (.aload_n 0, 1) := by decide +kernel
theorem d_S_uselessBlocks_26 : decode b_S_uselessBlocks 26 = .ok (.iload_n 1, 1) := by decide +kernel
theorem d_S_uselessBlocks_27 : decode b_S_uselessBlocks 27 = .ok (.iload_n 3, 1) := by decide +kernel
theorem d_S_uselessBlocks_28 : decode b_S_uselessBlocks 28 = .ok (.invokevirtual 88, 3) := by decide +kernel
theorem d_S_uselessBlocks_31 : decode b_S_uselessBlocks 31 = .ok (.ifCond .ne 6, 3) := by decide +kernel
theorem d_S_uselessBlocks_34 : decode b_S_uselessBlocks 34 = .ok (.iinc 2 1, 3) := by decide +kernel
theorem d_S_uselessBlocks_37 : decode b_S_uselessBlocks 37 = .ok (.iinc 3 1, 3) := by decide +kernel
theorem d_S_uselessBlocks_40 : decode b_S_uselessBlocks 40 = .ok (.goto (-36), 3) := by decide +kernel
theorem d_S_uselessBlocks_43 : decode b_S_uselessBlocks 43 = .ok (.iload_n 2, 1) := by decide +kernel
theorem d_S_uselessBlocks_44 : decode b_S_uselessBlocks 44 = .ok (.ireturn, 1) := by decide +kernel
abbrev b_S_uselessInodes : ByteArray := prog_2_method_37_code
abbrev y_S_uselessInodes : MethodName := ⟨"OrderedVolume$Store", "uselessInodes", "(I)I"⟩
abbrev o_S_uselessInodes : Cond := .code y_S_uselessInodes b_S_uselessInodes 4 (some .int)
abbrev rm_S_uselessInodes : Room := { frames := 1, cells := 0, slots := 0, locals := 21 }
theorem d_S_uselessInodes_0 : decode b_S_uselessInodes 0 = .ok (.iconst 0, 1) := by decide +kernel
theorem d_S_uselessInodes_1 : decode b_S_uselessInodes 1 = .ok (.istore_n 2, 1) := by decide +kernel
theorem d_S_uselessInodes_2 : decode b_S_uselessInodes 2 = .ok (.iconst 0, 1) := by decide +kernel
theorem d_S_uselessInodes_3 : decode b_S_uselessInodes 3 = .ok (.istore_n 3, 1) := by decide +kernel
theorem d_S_uselessInodes_4 : decode b_S_uselessInodes 4 = .ok (.iload_n 3, 1) := by decide +kernel
theorem d_S_uselessInodes_5 : decode b_S_uselessInodes 5 = .ok (.bipush 18, 2) := by decide +kernel
theorem d_S_uselessInodes_7 : decode b_S_uselessInodes 7 = .ok (.if_icmp .ge 36, 3) := by decide +kernel
theorem d_S_uselessInodes_10 : decode b_S_uselessInodes 10 = .ok (.iload_n 1, 1) := by decide +kernel
theorem d_S_uselessInodes_11 : decode b_S_uselessInodes 11 = .ok (.iload_n 3, 1) := by decide +kernel
theorem d_S_uselessInodes_12 : decode b_S_uselessInodes 12 = .ok (.invokestatic 66, 3) := by decide +kernel
theorem d_S_uselessInodes_15 : decode b_S_uselessInodes 15 = .ok (.ifCond .ne 22, 3) := by decide +kernel
theorem d_S_uselessInodes_18 : decode b_S_uselessInodes 18 = .ok (.aload_n 0, 1) := by decide +kernel
theorem d_S_uselessInodes_19 : decode b_S_uselessInodes 19 = .ok (.iload_n 3, 1) := by decide +kernel
theorem d_S_uselessInodes_20 : decode b_S_uselessInodes 20 = .ok (.invokevirtual 73, 3) := by decide +kernel
theorem d_S_uselessInodes_23 : decode b_S_uselessInodes 23 = .ok (.ifCond .ne 11, 3) := by decide +kernel
theorem d_S_uselessInodes_26 : decode b_S_uselessInodes 26 = .ok (.aload_n 0, 1) := by decide +kernel
theorem d_S_uselessInodes_27 : decode b_S_uselessInodes 27 = .ok (.iload_n 3, 1) := by decide +kernel
theorem d_S_uselessInodes_28 : decode b_S_uselessInodes 28 = .ok (.invokevirtual 70, 3) := by decide +kernel
theorem d_S_uselessInodes_31 : decode b_S_uselessInodes 31 = .ok (.ifCond .eq 6, 3) := by decide +kernel
theorem d_S_uselessInodes_34 : decode b_S_uselessInodes 34 = .ok (.iinc 2 1, 3) := by decide +kernel
theorem d_S_uselessInodes_37 : decode b_S_uselessInodes 37 = .ok (.iinc 3 1, 3) := by decide +kernel
theorem d_S_uselessInodes_40 : decode b_S_uselessInodes 40 = .ok (.goto (-36), 3) := by decide +kernel
theorem d_S_uselessInodes_43 : decode b_S_uselessInodes 43 = .ok (.iload_n 2, 1) := by decide +kernel
theorem d_S_uselessInodes_44 : decode b_S_uselessInodes 44 = .ok (.ireturn, 1) := by decide +kernel
abbrev b_S_wipeInode : ByteArray := prog_2_method_21_code
abbrev y_S_wipeInode : MethodName := ⟨"OrderedVolume$Store", "wipeInode", "(I)V"⟩
abbrev o_S_wipeInode : Cond := .code y_S_wipeInode b_S_wipeInode 3 none
abbrev rm_S_wipeInode : Room := { frames := 1, cells := 0, slots := 0, locals := 22 }
theorem d_S_wipeInode_0 : decode b_S_wipeInode 0 = .ok (.aload_n 0, 1) := by decide +kernel
theorem d_S_wipeInode_1 : decode b_S_wipeInode 1 = .ok (.iload_n 1, 1) := by decide +kernel
theorem d_S_wipeInode_2 : decode b_S_wipeInode 2 = .ok (.iconst 0, 1) := by decide +kernel
theorem d_S_wipeInode_3 : decode b_S_wipeInode 3 = .ok (.invokevirtual 28, 3) := by decide +kernel
theorem d_S_wipeInode_6 : decode b_S_wipeInode 6 = .ok (.iconst 0, 1) := by decide +kernel
theorem d_S_wipeInode_7 : decode b_S_wipeInode 7 = .ok (.istore_n 2, 1) := by decide +kernel
theorem d_S_wipeInode_8 : decode b_S_wipeInode 8 = .ok (.iload_n 2, 1) := by decide +kernel
theorem d_S_wipeInode_9 : decode b_S_wipeInode 9 = .ok (.iconst 5, 1) := by decide +kernel
theorem d_S_wipeInode_10 : decode b_S_wipeInode 10 = .ok (.if_icmp .ge 20, 3) := by decide +kernel
theorem d_S_wipeInode_13 : decode b_S_wipeInode 13 = .ok (.aload_n 0, 1) := by decide +kernel
theorem d_S_wipeInode_14 : decode b_S_wipeInode 14 = .ok (.getfield 15, 3) := by decide +kernel
theorem d_S_wipeInode_17 : decode b_S_wipeInode 17 = .ok (.iload_n 1, 1) := by decide +kernel
theorem d_S_wipeInode_18 : decode b_S_wipeInode 18 = .ok (.iconst 5, 1) := by decide +kernel
theorem d_S_wipeInode_19 : decode b_S_wipeInode 19 = .ok (.imul, 1) := by decide +kernel
theorem d_S_wipeInode_20 : decode b_S_wipeInode 20 = .ok (.iload_n 2, 1) := by decide +kernel
theorem d_S_wipeInode_21 : decode b_S_wipeInode 21 = .ok (.iadd, 1) := by decide +kernel
theorem d_S_wipeInode_22 : decode b_S_wipeInode 22 = .ok (.iconst 0, 1) := by decide +kernel
theorem d_S_wipeInode_23 : decode b_S_wipeInode 23 = .ok (.iastore, 1) := by decide +kernel
theorem d_S_wipeInode_24 : decode b_S_wipeInode 24 = .ok (.iinc 2 1, 3) := by decide +kernel
theorem d_S_wipeInode_27 : decode b_S_wipeInode 27 = .ok (.goto (-19), 3) := by decide +kernel
theorem d_S_wipeInode_30 : decode b_S_wipeInode 30 = .ok (.return_, 1) := by decide +kernel
abbrev b_S_word : ByteArray := prog_2_method_6_code
abbrev y_S_word : MethodName := ⟨"OrderedVolume$Store", "word", "(II)I"⟩
abbrev o_S_word : Cond := .code y_S_word b_S_word 3 (some .int)
abbrev rm_S_word : Room := { frames := 0, cells := 0, slots := 0, locals := 0 }
theorem d_S_word_0 : decode b_S_word 0 = .ok (.aload_n 0, 1) := by decide +kernel
theorem d_S_word_1 : decode b_S_word 1 = .ok (.getfield 21, 3) := by decide +kernel
theorem d_S_word_4 : decode b_S_word 4 = .ok (.iload_n 1, 1) := by decide +kernel
theorem d_S_word_5 : decode b_S_word 5 = .ok (.baload, 1) := by decide +kernel
theorem d_S_word_6 : decode b_S_word 6 = .ok (.ifCond .eq 7, 3) := by decide +kernel
theorem d_S_word_9 : decode b_S_word 9 = .ok (.iconst 0, 1) := by decide +kernel
theorem d_S_word_10 : decode b_S_word 10 = .ok (.goto 14, 3) := by decide +kernel
theorem d_S_word_13 : decode b_S_word 13 = .ok (.aload_n 0, 1) := by decide +kernel
theorem d_S_word_14 : decode b_S_word 14 = .ok (.getfield 18, 3) := by decide +kernel
theorem d_S_word_17 : decode b_S_word 17 = .ok (.iload_n 1, 1) := by decide +kernel
theorem d_S_word_18 : decode b_S_word 18 = .ok (.bipush 8, 2) := by decide +kernel
theorem d_S_word_20 : decode b_S_word 20 = .ok (.imul, 1) := by decide +kernel
theorem d_S_word_21 : decode b_S_word 21 = .ok (.iload_n 2, 1) := by decide +kernel
theorem d_S_word_22 : decode b_S_word 22 = .ok (.iadd, 1) := by decide +kernel
theorem d_S_word_23 : decode b_S_word 23 = .ok (.iaload, 1) := by decide +kernel
theorem d_S_word_24 : decode b_S_word 24 = .ok (.ireturn, 1) := by decide +kernel
abbrev b_S_wrongLinks : ByteArray := prog_2_method_38_code
abbrev y_S_wrongLinks : MethodName := ⟨"OrderedVolume$Store", "wrongLinks", "(II)I"⟩
abbrev o_S_wrongLinks : Cond := .code y_S_wrongLinks b_S_wrongLinks 5 (some .int)
abbrev rm_S_wrongLinks : Room := { frames := 2, cells := 0, slots := 0, locals := 49 }
theorem d_S_wrongLinks_0 : decode b_S_wrongLinks 0 = .ok (.iconst 0, 1) := by decide +kernel
theorem d_S_wrongLinks_1 : decode b_S_wrongLinks 1 = .ok (.istore_n 3, 1) := by decide +kernel
theorem d_S_wrongLinks_2 : decode b_S_wrongLinks 2 = .ok (.iconst 1, 1) := by decide +kernel
theorem d_S_wrongLinks_3 : decode b_S_wrongLinks 3 = .ok (.istore 4, 2) := by decide +kernel
theorem d_S_wrongLinks_5 : decode b_S_wrongLinks 5 = .ok (.iload 4, 2) := by decide +kernel
theorem d_S_wrongLinks_7 : decode b_S_wrongLinks 7 = .ok (.bipush 18, 2) := by decide +kernel
theorem d_S_wrongLinks_9 : decode b_S_wrongLinks 9 = .ok (.if_icmp .ge 40, 3) := by decide +kernel
theorem d_S_wrongLinks_12 : decode b_S_wrongLinks 12 = .ok (.iload_n 1, 1) := by decide +kernel
theorem d_S_wrongLinks_13 : decode b_S_wrongLinks 13 = .ok (.iload 4, 2) := by decide +kernel
theorem d_S_wrongLinks_15 : decode b_S_wrongLinks 15 = .ok (.invokestatic 66, 3) := by decide +kernel
theorem d_S_wrongLinks_18 : decode b_S_wrongLinks 18 = .ok (.ifCond .eq 25, 3) := by decide +kernel
theorem d_S_wrongLinks_21 : decode b_S_wrongLinks 21 = .ok (.aload_n 0, 1) := by decide +kernel
theorem d_S_wrongLinks_22 : decode b_S_wrongLinks 22 = .ok (.iload 4, 2) := by decide +kernel
theorem d_S_wrongLinks_24 : decode b_S_wrongLinks 24 = .ok (.invokevirtual 91, 3) := by decide +kernel
theorem d_S_wrongLinks_27 : decode b_S_wrongLinks 27 = .ok (.aload_n 0, 1) := by decide +kernel
theorem d_S_wrongLinks_28 : decode b_S_wrongLinks 28 = .ok (.iload_n 1, 1) := by decide +kernel
theorem d_S_wrongLinks_29 : decode b_S_wrongLinks 29 = .ok (.iload 4, 2) := by decide +kernel
theorem d_S_wrongLinks_31 : decode b_S_wrongLinks 31 = .ok (.invokevirtual 82, 3) := by decide +kernel
theorem d_S_wrongLinks_34 : decode b_S_wrongLinks 34 = .ok (.isub, 1) := by decide +kernel
theorem d_S_wrongLinks_35 : decode b_S_wrongLinks 35 = .ok (.iload_n 2, 1) := by decide +kernel
theorem d_S_wrongLinks_36 : decode b_S_wrongLinks 36 = .ok (.imul, 1) := by decide +kernel
theorem d_S_wrongLinks_37 : decode b_S_wrongLinks 37 = .ok (.ifCond .le 6, 3) := by decide +kernel
theorem d_S_wrongLinks_40 : decode b_S_wrongLinks 40 = .ok (.iinc 3 1, 3) := by decide +kernel
theorem d_S_wrongLinks_43 : decode b_S_wrongLinks 43 = .ok (.iinc 4 1, 3) := by decide +kernel
theorem d_S_wrongLinks_46 : decode b_S_wrongLinks 46 = .ok (.goto (-41), 3) := by decide +kernel
theorem d_S_wrongLinks_49 : decode b_S_wrongLinks 49 = .ok (.iload_n 3, 1) := by decide +kernel
theorem d_S_wrongLinks_50 : decode b_S_wrongLinks 50 = .ok (.ireturn, 1) := by decide +kernel
abbrev b_V_areAlike : ByteArray := prog_1_method_39_code
abbrev y_V_areAlike : MethodName := ⟨"OrderedVolume", "areAlike", "()Z"⟩
abbrev o_V_areAlike : Cond := .code y_V_areAlike b_V_areAlike 2 (some .boolean)
abbrev rm_V_areAlike : Room := { frames := 2, cells := 0, slots := 0, locals := 48 }
theorem d_V_areAlike_0 : decode b_V_areAlike 0 = .ok (.iconst 0, 1) := by decide +kernel
theorem d_V_areAlike_1 : decode b_V_areAlike 1 = .ok (.istore_n 1, 1) := by decide +kernel
theorem d_V_areAlike_2 : decode b_V_areAlike 2 = .ok (.iload_n 1, 1) := by decide +kernel
theorem d_V_areAlike_3 : decode b_V_areAlike 3 = .ok (.bipush 36, 2) := by decide +kernel
theorem d_V_areAlike_5 : decode b_V_areAlike 5 = .ok (.if_icmp .ge 59, 3) := by decide +kernel
theorem d_V_areAlike_8 : decode b_V_areAlike 8 = .ok (.iload_n 1, 1) := by decide +kernel
theorem d_V_areAlike_9 : decode b_V_areAlike 9 = .ok (.invokestatic 155, 3) := by decide +kernel
theorem d_V_areAlike_12 : decode b_V_areAlike 12 = .ok (.ifCond .eq 18, 3) := by decide +kernel
theorem d_V_areAlike_15 : decode b_V_areAlike 15 = .ok (.aload_n 0, 1) := by decide +kernel
theorem d_V_areAlike_16 : decode b_V_areAlike 16 = .ok (.getfield 10, 3) := by decide +kernel
theorem d_V_areAlike_19 : decode b_V_areAlike 19 = .ok (.iload_n 1, 1) := by decide +kernel
theorem d_V_areAlike_20 : decode b_V_areAlike 20 = .ok (.invokevirtual 206, 3) := by decide +kernel
theorem d_V_areAlike_23 : decode b_V_areAlike 23 = .ok (.iconst (-1), 1) := by decide +kernel
theorem d_V_areAlike_24 : decode b_V_areAlike 24 = .ok (.if_icmp .ne 6, 3) := by decide +kernel
theorem d_V_areAlike_27 : decode b_V_areAlike 27 = .ok (.goto 31, 3) := by decide +kernel
theorem d_V_areAlike_30 : decode b_V_areAlike 30 = .ok (.aload_n 0, 1) := by decide +kernel
theorem d_V_areAlike_31 : decode b_V_areAlike 31 = .ok (.getfield 16, 3) := by decide +kernel
theorem d_V_areAlike_34 : decode b_V_areAlike 34 = .ok (.iload_n 1, 1) := by decide +kernel
theorem d_V_areAlike_35 : decode b_V_areAlike 35 = .ok (.invokevirtual 216, 3) := by decide +kernel
theorem d_V_areAlike_38 : decode b_V_areAlike 38 = .ok (.ifCond .ne 18, 3) := by decide +kernel
theorem d_V_areAlike_41 : decode b_V_areAlike 41 = .ok (.aload_n 0, 1) := by decide +kernel
theorem d_V_areAlike_42 : decode b_V_areAlike 42 = .ok (.getfield 10, 3) := by decide +kernel
theorem d_V_areAlike_45 : decode b_V_areAlike 45 = .ok (.aload_n 0, 1) := by decide +kernel
theorem d_V_areAlike_46 : decode b_V_areAlike 46 = .ok (.getfield 16, 3) := by decide +kernel
theorem d_V_areAlike_49 : decode b_V_areAlike 49 = .ok (.iload_n 1, 1) := by decide +kernel
theorem d_V_areAlike_50 : decode b_V_areAlike 50 = .ok (.invokevirtual 219, 3) := by decide +kernel
theorem d_V_areAlike_53 : decode b_V_areAlike 53 = .ok (.ifCond .ne 5, 3) := by decide +kernel
theorem d_V_areAlike_56 : decode b_V_areAlike 56 = .ok (.iconst 0, 1) := by decide +kernel
theorem d_V_areAlike_57 : decode b_V_areAlike 57 = .ok (.ireturn, 1) := by decide +kernel
theorem d_V_areAlike_58 : decode b_V_areAlike 58 = .ok (.iinc 1 1, 3) := by decide +kernel
theorem d_V_areAlike_61 : decode b_V_areAlike 61 = .ok (.goto (-59), 3) := by decide +kernel
theorem d_V_areAlike_64 : decode b_V_areAlike 64 = .ok (.iconst 1, 1) := by decide +kernel
theorem d_V_areAlike_65 : decode b_V_areAlike 65 = .ok (.ireturn, 1) := by decide +kernel
abbrev b_V_blockForPointer : ByteArray := prog_1_method_29_code
abbrev y_V_blockForPointer : MethodName := ⟨"OrderedVolume", "blockForPointer", "(II)I"⟩
abbrev o_V_blockForPointer : Cond := .code y_V_blockForPointer b_V_blockForPointer 5 (some .int)
abbrev rm_V_blockForPointer : Room := { frames := 2, cells := 0, slots := 0, locals := 45 }
theorem d_V_blockForPointer_0 : decode b_V_blockForPointer 0 = .ok (.iload_n 2, 1) := by decide +kernel
theorem d_V_blockForPointer_1 : decode b_V_blockForPointer 1 = .ok (.ifCond .le 17, 3) := by decide +kernel
theorem d_V_blockForPointer_4 : decode b_V_blockForPointer 4 = .ok (.aload_n 0, 1) := by decide +kernel
theorem d_V_blockForPointer_5 : decode b_V_blockForPointer 5 = .ok (.getfield 10, 3) := by decide +kernel
theorem d_V_blockForPointer_8 : decode b_V_blockForPointer 8 = .ok (.iload_n 1, 1) := by decide +kernel
theorem d_V_blockForPointer_9 : decode b_V_blockForPointer 9 = .ok (.iload_n 2, 1) := by decide +kernel
theorem d_V_blockForPointer_10 : decode b_V_blockForPointer 10 = .ok (.iconst 1, 1) := by decide +kernel
theorem d_V_blockForPointer_11 : decode b_V_blockForPointer 11 = .ok (.isub, 1) := by decide +kernel
theorem d_V_blockForPointer_12 : decode b_V_blockForPointer 12 = .ok (.invokevirtual 114, 3) := by decide +kernel
theorem d_V_blockForPointer_15 : decode b_V_blockForPointer 15 = .ok (.goto 4, 3) := by decide +kernel
theorem d_V_blockForPointer_18 : decode b_V_blockForPointer 18 = .ok (.iconst 0, 1) := by decide +kernel
theorem d_V_blockForPointer_19 : decode b_V_blockForPointer 19 = .ok (.istore_n 3, 1) := by decide +kernel
theorem d_V_blockForPointer_20 : decode b_V_blockForPointer 20 = .ok (.iload_n 3, 1) := by decide +kernel
theorem d_V_blockForPointer_21 : decode b_V_blockForPointer 21 = .ok (.ifCond .eq 38, 3) := by decide +kernel
theorem d_V_blockForPointer_24 : decode b_V_blockForPointer 24 = .ok (.iload_n 3, 1) := by decide +kernel
theorem d_V_blockForPointer_25 : decode b_V_blockForPointer 25 = .ok (.iconst 1, 1) := by decide +kernel
theorem d_V_blockForPointer_26 : decode b_V_blockForPointer 26 = .ok (.iadd, 1) := by decide +kernel
theorem d_V_blockForPointer_27 : decode b_V_blockForPointer 27 = .ok (.istore 4, 2) := by decide +kernel
theorem d_V_blockForPointer_29 : decode b_V_blockForPointer 29 = .ok (.iload 4, 2) := by decide +kernel
theorem d_V_blockForPointer_31 : decode b_V_blockForPointer 31 = .ok (.bipush 36, 2) := by decide +kernel
theorem d_V_blockForPointer_33 : decode b_V_blockForPointer 33 = .ok (.if_icmp .ge 26, 3) := by decide +kernel
theorem d_V_blockForPointer_36 : decode b_V_blockForPointer 36 = .ok (.iload 4, 2) := by decide +kernel
theorem d_V_blockForPointer_38 : decode b_V_blockForPointer 38 = .ok (.invokestatic 155, 3) := by decide +kernel
theorem d_V_blockForPointer_41 : decode b_V_blockForPointer 41 = .ok (.ifCond .eq 18, 3) := by decide +kernel
theorem d_V_blockForPointer_44 : decode b_V_blockForPointer 44 = .ok (.aload_n 0, 1) := by decide +kernel
theorem d_V_blockForPointer_45 : decode b_V_blockForPointer 45 = .ok (.getfield 10, 3) := by decide +kernel
theorem d_V_blockForPointer_48 : decode b_V_blockForPointer 48 = .ok (.iload 4, 2) := by decide +kernel
theorem d_V_blockForPointer_50 : decode b_V_blockForPointer 50 = .ok (.invokevirtual 161, 3) := by decide +kernel
theorem d_V_blockForPointer_53 : decode b_V_blockForPointer 53 = .ok (.ifCond .ne 6, 3) := by decide +kernel
theorem d_V_blockForPointer_56 : decode b_V_blockForPointer 56 = .ok (.iload 4, 2) := by decide +kernel
theorem d_V_blockForPointer_58 : decode b_V_blockForPointer 58 = .ok (.ireturn, 1) := by decide +kernel
theorem d_V_blockForPointer_59 : decode b_V_blockForPointer 59 = .ok (.aload_n 0, 1) := by decide +kernel
theorem d_V_blockForPointer_60 : decode b_V_blockForPointer 60 = .ok (.getfield 10, 3) := by decide +kernel
theorem d_V_blockForPointer_63 : decode b_V_blockForPointer 63 = .ok (.iload_n 1, 1) := by decide +kernel
theorem d_V_blockForPointer_64 : decode b_V_blockForPointer 64 = .ok (.bipush 6, 2) := by decide +kernel
theorem d_V_blockForPointer_66 : decode b_V_blockForPointer 66 = .ok (.idiv, 1) := by decide +kernel
theorem d_V_blockForPointer_67 : decode b_V_blockForPointer 67 = .ok (.invokevirtual 66, 3) := by decide +kernel
theorem d_V_blockForPointer_70 : decode b_V_blockForPointer 70 = .ok (.ireturn, 1) := by decide +kernel
