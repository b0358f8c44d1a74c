abbrev b_V_isCell : ByteArray := prog_1_method_20_code
abbrev y_V_isCell : MethodName := ⟨"OrderedVolume", "isCell", "(II)Z"⟩
abbrev o_V_isCell : Cond := .code y_V_isCell b_V_isCell 2 (some .boolean)
abbrev rm_V_isCell : Room := { frames := 1, cells := 0, slots := 0, locals := 21 }
theorem d_V_isCell_0 : decode b_V_isCell 0 = .ok (.iload_n 0, 1) := by decide +kernel
theorem d_V_isCell_1 : decode b_V_isCell 1 = .ok (.ifCond .lt 25, 3) := by decide +kernel
theorem d_V_isCell_4 : decode b_V_isCell 4 = .ok (.iload_n 0, 1) := by decide +kernel
theorem d_V_isCell_5 : decode b_V_isCell 5 = .ok (.bipush 36, 2) := by decide +kernel
theorem d_V_isCell_7 : decode b_V_isCell 7 = .ok (.if_icmp .ge 19, 3) := by decide +kernel
theorem d_V_isCell_10 : decode b_V_isCell 10 = .ok (.iload_n 1, 1) := by decide +kernel
theorem d_V_isCell_11 : decode b_V_isCell 11 = .ok (.ifCond .lt 15, 3) := by decide +kernel
theorem d_V_isCell_14 : decode b_V_isCell 14 = .ok (.iload_n 1, 1) := by decide +kernel
theorem d_V_isCell_15 : decode b_V_isCell 15 = .ok (.iload_n 0, 1) := by decide +kernel
theorem d_V_isCell_16 : decode b_V_isCell 16 = .ok (.invokestatic 191, 3) := by decide +kernel
theorem d_V_isCell_19 : decode b_V_isCell 19 = .ok (.if_icmp .ge 7, 3) := by decide +kernel
theorem d_V_isCell_22 : decode b_V_isCell 22 = .ok (.iconst 1, 1) := by decide +kernel
theorem d_V_isCell_23 : decode b_V_isCell 23 = .ok (.goto 4, 3) := by decide +kernel
theorem d_V_isCell_26 : decode b_V_isCell 26 = .ok (.iconst 0, 1) := by decide +kernel
theorem d_V_isCell_27 : decode b_V_isCell 27 = .ok (.ireturn, 1) := by decide +kernel
abbrev b_V_cached : ByteArray := prog_1_method_16_code
abbrev y_V_cached : MethodName := ⟨"OrderedVolume", "cached", "(II)I"⟩
abbrev o_V_cached : Cond := .code y_V_cached b_V_cached 3 (some .int)
abbrev rm_V_cached : Room := { frames := 2, cells := 0, slots := 0, locals := 42 }
theorem d_V_cached_0 : decode b_V_cached 0 = .ok (.iload_n 1, 1) := by decide +kernel
theorem d_V_cached_1 : decode b_V_cached 1 = .ok (.iload_n 2, 1) := by decide +kernel
theorem d_V_cached_2 : decode b_V_cached 2 = .ok (.invokestatic 185, 3) := by decide +kernel
theorem d_V_cached_5 : decode b_V_cached 5 = .ok (.ifCond .eq 15, 3) := by decide +kernel
theorem d_V_cached_8 : decode b_V_cached 8 = .ok (.aload_n 0, 1) := by decide +kernel
theorem d_V_cached_9 : decode b_V_cached 9 = .ok (.getfield 10, 3) := by decide +kernel
theorem d_V_cached_12 : decode b_V_cached 12 = .ok (.iload_n 1, 1) := by decide +kernel
theorem d_V_cached_13 : decode b_V_cached 13 = .ok (.iload_n 2, 1) := by decide +kernel
theorem d_V_cached_14 : decode b_V_cached 14 = .ok (.invokevirtual 188, 3) := by decide +kernel
theorem d_V_cached_17 : decode b_V_cached 17 = .ok (.goto 4, 3) := by decide +kernel
theorem d_V_cached_20 : decode b_V_cached 20 = .ok (.iconst 0, 1) := by decide +kernel
theorem d_V_cached_21 : decode b_V_cached 21 = .ok (.ireturn, 1) := by decide +kernel
abbrev b_V_crash : ByteArray := prog_1_method_12_code
abbrev y_V_crash : MethodName := ⟨"OrderedVolume", "crash", "()Z"⟩
abbrev o_V_crash : Cond := .code y_V_crash b_V_crash 2 (some .boolean)
abbrev rm_V_crash : Room := { frames := 2, cells := 0, slots := 0, locals := 49 }
theorem d_V_crash_0 : decode b_V_crash 0 = .ok (.aload_n 0, 1) := by decide +kernel
theorem d_V_crash_1 : decode b_V_crash 1 = .ok (.getfield 29, 3) := by decide +kernel
theorem d_V_crash_4 : decode b_V_crash 4 = .ok (.ifCond .eq 5, 3) := by decide +kernel
theorem d_V_crash_7 : decode b_V_crash 7 = .ok (.iconst 0, 1) := by decide +kernel
theorem d_V_crash_8 : decode b_V_crash 8 = .ok (.ireturn, 1) := by decide +kernel
theorem d_V_crash_9 : decode b_V_crash 9 = .ok (.iconst 0, 1) := by decide +kernel
theorem d_V_crash_10 : decode b_V_crash 10 = .ok (.istore_n 1, 1) := by decide +kernel
theorem d_V_crash_11 : decode b_V_crash 11 = .ok (.iload_n 1, 1) := by decide +kernel
theorem d_V_crash_12 : decode b_V_crash 12 = .ok (.bipush 36, 2) := by decide +kernel
theorem d_V_crash_14 : decode b_V_crash 14 = .ok (.if_icmp .ge 44, 3) := by decide +kernel
theorem d_V_crash_17 : decode b_V_crash 17 = .ok (.aload_n 0, 1) := by decide +kernel
theorem d_V_crash_18 : decode b_V_crash 18 = .ok (.getfield 10, 3) := by decide +kernel
theorem d_V_crash_21 : decode b_V_crash 21 = .ok (.aload_n 0, 1) := by decide +kernel
theorem d_V_crash_22 : decode b_V_crash 22 = .ok (.getfield 16, 3) := by decide +kernel
theorem d_V_crash_25 : decode b_V_crash 25 = .ok (.iload_n 1, 1) := by decide +kernel
theorem d_V_crash_26 : decode b_V_crash 26 = .ok (.invokevirtual 135, 3) := by decide +kernel
theorem d_V_crash_29 : decode b_V_crash 29 = .ok (.aload_n 0, 1) := by decide +kernel
theorem d_V_crash_30 : decode b_V_crash 30 = .ok (.getfield 16, 3) := by decide +kernel
theorem d_V_crash_33 : decode b_V_crash 33 = .ok (.iload_n 1, 1) := by decide +kernel
theorem d_V_crash_34 : decode b_V_crash 34 = .ok (.iconst 0, 1) := by decide +kernel
theorem d_V_crash_35 : decode b_V_crash 35 = .ok (.invokevirtual 139, 3) := by decide +kernel
theorem d_V_crash_38 : decode b_V_crash 38 = .ok (.aload_n 0, 1) := by decide +kernel
theorem d_V_crash_39 : decode b_V_crash 39 = .ok (.getfield 19, 3) := by decide +kernel
theorem d_V_crash_42 : decode b_V_crash 42 = .ok (.iload_n 1, 1) := by decide +kernel
theorem d_V_crash_43 : decode b_V_crash 43 = .ok (.iconst 0, 1) := by decide +kernel
theorem d_V_crash_44 : decode b_V_crash 44 = .ok (.iastore, 1) := by decide +kernel
theorem d_V_crash_45 : decode b_V_crash 45 = .ok (.aload_n 0, 1) := by decide +kernel
theorem d_V_crash_46 : decode b_V_crash 46 = .ok (.getfield 23, 3) := by decide +kernel
theorem d_V_crash_49 : decode b_V_crash 49 = .ok (.iload_n 1, 1) := by decide +kernel
theorem d_V_crash_50 : decode b_V_crash 50 = .ok (.iconst 0, 1) := by decide +kernel
theorem d_V_crash_51 : decode b_V_crash 51 = .ok (.iastore, 1) := by decide +kernel
theorem d_V_crash_52 : decode b_V_crash 52 = .ok (.iinc 1 1, 3) := by decide +kernel
theorem d_V_crash_55 : decode b_V_crash 55 = .ok (.goto (-44), 3) := by decide +kernel
theorem d_V_crash_58 : decode b_V_crash 58 = .ok (.iconst 0, 1) := by decide +kernel
theorem d_V_crash_59 : decode b_V_crash 59 = .ok (.istore_n 1, 1) := by decide +kernel
theorem d_V_crash_60 : decode b_V_crash 60 = .ok (.iload_n 1, 1) := by decide +kernel
theorem d_V_crash_61 : decode b_V_crash 61 = .ok (.bipush 18, 2) := by decide +kernel
theorem d_V_crash_63 : decode b_V_crash 63 = .ok (.if_icmp .ge 16, 3) := by decide +kernel
theorem d_V_crash_66 : decode b_V_crash 66 = .ok (.aload_n 0, 1) := by decide +kernel
theorem d_V_crash_67 : decode b_V_crash 67 = .ok (.getfield 26, 3) := by decide +kernel
theorem d_V_crash_70 : decode b_V_crash 70 = .ok (.iload_n 1, 1) := by decide +kernel
theorem d_V_crash_71 : decode b_V_crash 71 = .ok (.iconst 0, 1) := by decide +kernel
theorem d_V_crash_72 : decode b_V_crash 72 = .ok (.iastore, 1) := by decide +kernel
theorem d_V_crash_73 : decode b_V_crash 73 = .ok (.iinc 1 1, 3) := by decide +kernel
theorem d_V_crash_76 : decode b_V_crash 76 = .ok (.goto (-16), 3) := by decide +kernel
theorem d_V_crash_79 : decode b_V_crash 79 = .ok (.iconst 1, 1) := by decide +kernel
theorem d_V_crash_80 : decode b_V_crash 80 = .ok (.ireturn, 1) := by decide +kernel
abbrev b_V_isInTree : ByteArray := prog_1_method_25_code
abbrev y_V_isInTree : MethodName := ⟨"OrderedVolume", "isInTree", "(I)Z"⟩
abbrev o_V_isInTree : Cond := .code y_V_isInTree b_V_isInTree 2 (some .boolean)
abbrev rm_V_isInTree : Room := { frames := 2, cells := 0, slots := 0, locals := 50 }
theorem d_V_isInTree_0 : decode b_V_isInTree 0 = .ok (.iload_n 1, 1) := by decide +kernel
theorem d_V_isInTree_1 : decode b_V_isInTree 1 = .ok (.ifCond .lt 28, 3) := by decide +kernel
theorem d_V_isInTree_4 : decode b_V_isInTree 4 = .ok (.iload_n 1, 1) := by decide +kernel
theorem d_V_isInTree_5 : decode b_V_isInTree 5 = .ok (.bipush 18, 2) := by decide +kernel
theorem d_V_isInTree_7 : decode b_V_isInTree 7 = .ok (.if_icmp .ge 22, 3) := by decide +kernel
theorem d_V_isInTree_10 : decode b_V_isInTree 10 = .ok (.aload_n 0, 1) := by decide +kernel
theorem d_V_isInTree_11 : decode b_V_isInTree 11 = .ok (.getfield 10, 3) := by decide +kernel
theorem d_V_isInTree_14 : decode b_V_isInTree 14 = .ok (.iconst 0, 1) := by decide +kernel
theorem d_V_isInTree_15 : decode b_V_isInTree 15 = .ok (.invokevirtual 104, 3) := by decide +kernel
theorem d_V_isInTree_18 : decode b_V_isInTree 18 = .ok (.iload_n 1, 1) := by decide +kernel
theorem d_V_isInTree_19 : decode b_V_isInTree 19 = .ok (.invokestatic 107, 3) := by decide +kernel
theorem d_V_isInTree_22 : decode b_V_isInTree 22 = .ok (.ifCond .eq 7, 3) := by decide +kernel
theorem d_V_isInTree_25 : decode b_V_isInTree 25 = .ok (.iconst 1, 1) := by decide +kernel
theorem d_V_isInTree_26 : decode b_V_isInTree 26 = .ok (.goto 4, 3) := by decide +kernel
theorem d_V_isInTree_29 : decode b_V_isInTree 29 = .ok (.iconst 0, 1) := by decide +kernel
theorem d_V_isInTree_30 : decode b_V_isInTree 30 = .ok (.ireturn, 1) := by decide +kernel
abbrev b_V_isTreeDirectory : ByteArray := prog_1_method_23_code
abbrev y_V_isTreeDirectory : MethodName := ⟨"OrderedVolume", "isTreeDirectory", "(I)Z"⟩
abbrev o_V_isTreeDirectory : Cond := .code y_V_isTreeDirectory b_V_isTreeDirectory 2 (some .boolean)
abbrev rm_V_isTreeDirectory : Room := { frames := 3, cells := 0, slots := 0, locals := 71 }
theorem d_V_isTreeDirectory_0 : decode b_V_isTreeDirectory 0 = .ok (.aload_n 0, 1) := by decide +kernel
theorem d_V_isTreeDirectory_1 : decode b_V_isTreeDirectory 1 = .ok (.iload_n 1, 1) := by decide +kernel
theorem d_V_isTreeDirectory_2 : decode b_V_isTreeDirectory 2 = .ok (.invokevirtual 194, 3) := by decide +kernel
theorem d_V_isTreeDirectory_5 : decode b_V_isTreeDirectory 5 = .ok (.ifCond .eq 19, 3) := by decide +kernel
theorem d_V_isTreeDirectory_8 : decode b_V_isTreeDirectory 8 = .ok (.aload_n 0, 1) := by decide +kernel
theorem d_V_isTreeDirectory_9 : decode b_V_isTreeDirectory 9 = .ok (.getfield 10, 3) := by decide +kernel
theorem d_V_isTreeDirectory_12 : decode b_V_isTreeDirectory 12 = .ok (.iload_n 1, 1) := by decide +kernel
theorem d_V_isTreeDirectory_13 : decode b_V_isTreeDirectory 13 = .ok (.invokevirtual 101, 3) := by decide +kernel
theorem d_V_isTreeDirectory_16 : decode b_V_isTreeDirectory 16 = .ok (.iconst 2, 1) := by decide +kernel
theorem d_V_isTreeDirectory_17 : decode b_V_isTreeDirectory 17 = .ok (.if_icmp .ne 7, 3) := by decide +kernel
theorem d_V_isTreeDirectory_20 : decode b_V_isTreeDirectory 20 = .ok (.iconst 1, 1) := by decide +kernel
theorem d_V_isTreeDirectory_21 : decode b_V_isTreeDirectory 21 = .ok (.goto 4, 3) := by decide +kernel
theorem d_V_isTreeDirectory_24 : decode b_V_isTreeDirectory 24 = .ok (.iconst 0, 1) := by decide +kernel
theorem d_V_isTreeDirectory_25 : decode b_V_isTreeDirectory 25 = .ok (.ireturn, 1) := by decide +kernel
abbrev b_V_refusalOfEntry : ByteArray := prog_1_method_26_code
abbrev y_V_refusalOfEntry : MethodName := ⟨"OrderedVolume", "refusalOfEntry", "(II)I"⟩
abbrev o_V_refusalOfEntry : Cond := .code y_V_refusalOfEntry b_V_refusalOfEntry 3 (some .int)
abbrev rm_V_refusalOfEntry : Room := { frames := 2, cells := 0, slots := 0, locals := 46 }
theorem d_V_refusalOfEntry_0 : decode b_V_refusalOfEntry 0 = .ok (.aload_n 0, 1) := by decide +kernel
theorem d_V_refusalOfEntry_1 : decode b_V_refusalOfEntry 1 = .ok (.getfield 10, 3) := by decide +kernel
theorem d_V_refusalOfEntry_4 : decode b_V_refusalOfEntry 4 = .ok (.iload_n 1, 1) := by decide +kernel
theorem d_V_refusalOfEntry_5 : decode b_V_refusalOfEntry 5 = .ok (.iload_n 2, 1) := by decide +kernel
theorem d_V_refusalOfEntry_6 : decode b_V_refusalOfEntry 6 = .ok (.invokevirtual 89, 3) := by decide +kernel
theorem d_V_refusalOfEntry_9 : decode b_V_refusalOfEntry 9 = .ok (.iconst (-1), 1) := by decide +kernel
theorem d_V_refusalOfEntry_10 : decode b_V_refusalOfEntry 10 = .ok (.if_icmp .eq 6, 3) := by decide +kernel
theorem d_V_refusalOfEntry_13 : decode b_V_refusalOfEntry 13 = .ok (.bipush (-2), 2) := by decide +kernel
theorem d_V_refusalOfEntry_15 : decode b_V_refusalOfEntry 15 = .ok (.ireturn, 1) := by decide +kernel
theorem d_V_refusalOfEntry_16 : decode b_V_refusalOfEntry 16 = .ok (.aload_n 0, 1) := by decide +kernel
theorem d_V_refusalOfEntry_17 : decode b_V_refusalOfEntry 17 = .ok (.getfield 10, 3) := by decide +kernel
theorem d_V_refusalOfEntry_20 : decode b_V_refusalOfEntry 20 = .ok (.iload_n 1, 1) := by decide +kernel
theorem d_V_refusalOfEntry_21 : decode b_V_refusalOfEntry 21 = .ok (.invokevirtual 95, 3) := by decide +kernel
theorem d_V_refusalOfEntry_24 : decode b_V_refusalOfEntry 24 = .ok (.bipush 8, 2) := by decide +kernel
theorem d_V_refusalOfEntry_26 : decode b_V_refusalOfEntry 26 = .ok (.if_icmp .ne 8, 3) := by decide +kernel
theorem d_V_refusalOfEntry_29 : decode b_V_refusalOfEntry 29 = .ok (.bipush (-3), 2) := by decide +kernel
theorem d_V_refusalOfEntry_31 : decode b_V_refusalOfEntry 31 = .ok (.goto 4, 3) := by decide +kernel
theorem d_V_refusalOfEntry_34 : decode b_V_refusalOfEntry 34 = .ok (.iconst 0, 1) := by decide +kernel
theorem d_V_refusalOfEntry_35 : decode b_V_refusalOfEntry 35 = .ok (.ireturn, 1) := by decide +kernel
abbrev b_V_placeIn : ByteArray := prog_1_method_28_code
abbrev y_V_placeIn : MethodName := ⟨"OrderedVolume", "placeIn", "(I)I"⟩
abbrev o_V_placeIn : Cond := .code y_V_placeIn b_V_placeIn 4 (some .int)
abbrev rm_V_placeIn : Room := { frames := 1, cells := 0, slots := 0, locals := 22 }
theorem d_V_placeIn_0 : decode b_V_placeIn 0 = .ok (.aload_n 0, 1) := by decide +kernel
theorem d_V_placeIn_1 : decode b_V_placeIn 1 = .ok (.getfield 10, 3) := by decide +kernel
theorem d_V_placeIn_4 : decode b_V_placeIn 4 = .ok (.iload_n 1, 1) := by decide +kernel
theorem d_V_placeIn_5 : decode b_V_placeIn 5 = .ok (.iconst 0, 1) := by decide +kernel
theorem d_V_placeIn_6 : decode b_V_placeIn 6 = .ok (.invokevirtual 114, 3) := by decide +kernel
theorem d_V_placeIn_9 : decode b_V_placeIn 9 = .ok (.istore_n 2, 1) := by decide +kernel
theorem d_V_placeIn_10 : decode b_V_placeIn 10 = .ok (.iload_n 2, 1) := by decide +kernel
theorem d_V_placeIn_11 : decode b_V_placeIn 11 = .ok (.ifCond .ne 5, 3) := by decide +kernel
theorem d_V_placeIn_14 : decode b_V_placeIn 14 = .ok (.iconst (-1), 1) := by decide +kernel
theorem d_V_placeIn_15 : decode b_V_placeIn 15 = .ok (.ireturn, 1) := by decide +kernel
theorem d_V_placeIn_16 : decode b_V_placeIn 16 = .ok (.iconst 0, 1) := by decide +kernel
theorem d_V_placeIn_17 : decode b_V_placeIn 17 = .ok (.istore_n 3, 1) := by decide +kernel
theorem d_V_placeIn_18 : decode b_V_placeIn 18 = .ok (.iload_n 3, 1) := by decide +kernel
theorem d_V_placeIn_19 : decode b_V_placeIn 19 = .ok (.bipush 8, 2) := by decide +kernel
theorem d_V_placeIn_21 : decode b_V_placeIn 21 = .ok (.if_icmp .ge 35, 3) := by decide +kernel
theorem d_V_placeIn_24 : decode b_V_placeIn 24 = .ok (.aload_n 0, 1) := by decide +kernel
theorem d_V_placeIn_25 : decode b_V_placeIn 25 = .ok (.getfield 10, 3) := by decide +kernel
theorem d_V_placeIn_28 : decode b_V_placeIn 28 = .ok (.iload_n 2, 1) := by decide +kernel
theorem d_V_placeIn_29 : decode b_V_placeIn 29 = .ok (.iload_n 3, 1) := by decide +kernel
theorem d_V_placeIn_30 : decode b_V_placeIn 30 = .ok (.invokevirtual 123, 3) := by decide +kernel
theorem d_V_placeIn_33 : decode b_V_placeIn 33 = .ok (.ifCond .ne 17, 3) := by decide +kernel
theorem d_V_placeIn_36 : decode b_V_placeIn 36 = .ok (.aload_n 0, 1) := by decide +kernel
theorem d_V_placeIn_37 : decode b_V_placeIn 37 = .ok (.getfield 16, 3) := by decide +kernel
theorem d_V_placeIn_40 : decode b_V_placeIn 40 = .ok (.iload_n 2, 1) := by decide +kernel
theorem d_V_placeIn_41 : decode b_V_placeIn 41 = .ok (.iload_n 3, 1) := by decide +kernel
theorem d_V_placeIn_42 : decode b_V_placeIn 42 = .ok (.invokevirtual 123, 3) := by decide +kernel
theorem d_V_placeIn_45 : decode b_V_placeIn 45 = .ok (.ifCond .ne 5, 3) := by decide +kernel
theorem d_V_placeIn_48 : decode b_V_placeIn 48 = .ok (.iload_n 3, 1) := by decide +kernel
theorem d_V_placeIn_49 : decode b_V_placeIn 49 = .ok (.ireturn, 1) := by decide +kernel
theorem d_V_placeIn_50 : decode b_V_placeIn 50 = .ok (.iinc 3 1, 3) := by decide +kernel
theorem d_V_placeIn_53 : decode b_V_placeIn 53 = .ok (.goto (-35), 3) := by decide +kernel
theorem d_V_placeIn_56 : decode b_V_placeIn 56 = .ok (.iconst (-1), 1) := by decide +kernel
theorem d_V_placeIn_57 : decode b_V_placeIn 57 = .ok (.ireturn, 1) := by decide +kernel
abbrev b_V_lacksForNew : ByteArray := prog_1_method_27_code
abbrev y_V_lacksForNew : MethodName := ⟨"OrderedVolume", "lacksForNew", "(IZ)Z"⟩
abbrev o_V_lacksForNew : Cond := .code y_V_lacksForNew b_V_lacksForNew 3 (some .boolean)
abbrev rm_V_lacksForNew : Room := { frames := 3, cells := 0, slots := 0, locals := 66 }
theorem d_V_lacksForNew_0 : decode b_V_lacksForNew 0 = .ok (.aload_n 0, 1) := by decide +kernel
theorem d_V_lacksForNew_1 : decode b_V_lacksForNew 1 = .ok (.iload_n 1, 1) := by decide +kernel
theorem d_V_lacksForNew_2 : decode b_V_lacksForNew 2 = .ok (.invokevirtual 77, 3) := by decide +kernel
theorem d_V_lacksForNew_5 : decode b_V_lacksForNew 5 = .ok (.iconst (-1), 1) := by decide +kernel
theorem d_V_lacksForNew_6 : decode b_V_lacksForNew 6 = .ok (.if_icmp .eq 31, 3) := by decide +kernel
theorem d_V_lacksForNew_9 : decode b_V_lacksForNew 9 = .ok (.aload_n 0, 1) := by decide +kernel
theorem d_V_lacksForNew_10 : decode b_V_lacksForNew 10 = .ok (.getfield 10, 3) := by decide +kernel
theorem d_V_lacksForNew_13 : decode b_V_lacksForNew 13 = .ok (.iconst 0, 1) := by decide +kernel
theorem d_V_lacksForNew_14 : decode b_V_lacksForNew 14 = .ok (.invokevirtual 55, 3) := by decide +kernel
theorem d_V_lacksForNew_17 : decode b_V_lacksForNew 17 = .ok (.iconst (-1), 1) := by decide +kernel
theorem d_V_lacksForNew_18 : decode b_V_lacksForNew 18 = .ok (.if_icmp .eq 19, 3) := by decide +kernel
theorem d_V_lacksForNew_21 : decode b_V_lacksForNew 21 = .ok (.iload_n 2, 1) := by decide +kernel
theorem d_V_lacksForNew_22 : decode b_V_lacksForNew 22 = .ok (.ifCond .eq 19, 3) := by decide +kernel
theorem d_V_lacksForNew_25 : decode b_V_lacksForNew 25 = .ok (.aload_n 0, 1) := by decide +kernel
theorem d_V_lacksForNew_26 : decode b_V_lacksForNew 26 = .ok (.getfield 10, 3) := by decide +kernel
theorem d_V_lacksForNew_29 : decode b_V_lacksForNew 29 = .ok (.iconst 0, 1) := by decide +kernel
theorem d_V_lacksForNew_30 : decode b_V_lacksForNew 30 = .ok (.invokevirtual 66, 3) := by decide +kernel
theorem d_V_lacksForNew_33 : decode b_V_lacksForNew 33 = .ok (.iconst (-1), 1) := by decide +kernel
theorem d_V_lacksForNew_34 : decode b_V_lacksForNew 34 = .ok (.if_icmp .ne 7, 3) := by decide +kernel
theorem d_V_lacksForNew_37 : decode b_V_lacksForNew 37 = .ok (.iconst 1, 1) := by decide +kernel
theorem d_V_lacksForNew_38 : decode b_V_lacksForNew 38 = .ok (.goto 4, 3) := by decide +kernel
theorem d_V_lacksForNew_41 : decode b_V_lacksForNew 41 = .ok (.iconst 0, 1) := by decide +kernel
theorem d_V_lacksForNew_42 : decode b_V_lacksForNew 42 = .ok (.ireturn, 1) := by decide +kernel
abbrev b_V_dropPointers : ByteArray := prog_1_method_34_code
abbrev y_V_dropPointers : MethodName := ⟨"OrderedVolume", "dropPointers", "(II)I"⟩
abbrev o_V_dropPointers : Cond := .code y_V_dropPointers b_V_dropPointers 6 (some .int)
abbrev rm_V_dropPointers : Room := { frames := 1, cells := 0, slots := 0, locals := 23 }
theorem d_V_dropPointers_0 : decode b_V_dropPointers 0 = .ok (.iconst 0, 1) := by decide +kernel
theorem d_V_dropPointers_1 : decode b_V_dropPointers 1 = .ok (.istore_n 3, 1) := by decide +kernel
theorem d_V_dropPointers_2 : decode b_V_dropPointers 2 = .ok (.iload_n 2, 1) := by decide +kernel
theorem d_V_dropPointers_3 : decode b_V_dropPointers 3 = .ok (.istore 4, 2) := by decide +kernel
theorem d_V_dropPointers_5 : decode b_V_dropPointers 5 = .ok (.iload 4, 2) := by decide +kernel
theorem d_V_dropPointers_7 : decode b_V_dropPointers 7 = .ok (.iconst 3, 1) := by decide +kernel
theorem d_V_dropPointers_8 : decode b_V_dropPointers 8 = .ok (.if_icmp .ge 55, 3) := by decide +kernel
theorem d_V_dropPointers_11 : decode b_V_dropPointers 11 = .ok (.aload_n 0, 1) := by decide +kernel
theorem d_V_dropPointers_12 : decode b_V_dropPointers 12 = .ok (.getfield 10, 3) := by decide +kernel
theorem d_V_dropPointers_15 : decode b_V_dropPointers 15 = .ok (.iload_n 1, 1) := by decide +kernel
theorem d_V_dropPointers_16 : decode b_V_dropPointers 16 = .ok (.iload 4, 2) := by decide +kernel
theorem d_V_dropPointers_18 : decode b_V_dropPointers 18 = .ok (.invokevirtual 114, 3) := by decide +kernel
theorem d_V_dropPointers_21 : decode b_V_dropPointers 21 = .ok (.istore 5, 2) := by decide +kernel
theorem d_V_dropPointers_23 : decode b_V_dropPointers 23 = .ok (.iload 5, 2) := by decide +kernel
theorem d_V_dropPointers_25 : decode b_V_dropPointers 25 = .ok (.ifCond .eq 32, 3) := by decide +kernel
theorem d_V_dropPointers_28 : decode b_V_dropPointers 28 = .ok (.aload_n 0, 1) := by decide +kernel
theorem d_V_dropPointers_29 : decode b_V_dropPointers 29 = .ok (.getfield 23, 3) := by decide +kernel
theorem d_V_dropPointers_32 : decode b_V_dropPointers 32 = .ok (.iload 5, 2) := by decide +kernel
theorem d_V_dropPointers_34 : decode b_V_dropPointers 34 = .ok (.aload_n 0, 1) := by decide +kernel
theorem d_V_dropPointers_35 : decode b_V_dropPointers 35 = .ok (.getfield 10, 3) := by decide +kernel
theorem d_V_dropPointers_38 : decode b_V_dropPointers 38 = .ok (.iload_n 1, 1) := by decide +kernel
theorem d_V_dropPointers_39 : decode b_V_dropPointers 39 = .ok (.invokevirtual 101, 3) := by decide +kernel
theorem d_V_dropPointers_42 : decode b_V_dropPointers 42 = .ok (.iastore, 1) := by decide +kernel
theorem d_V_dropPointers_43 : decode b_V_dropPointers 43 = .ok (.aload_n 0, 1) := by decide +kernel
theorem d_V_dropPointers_44 : decode b_V_dropPointers 44 = .ok (.getfield 10, 3) := by decide +kernel
theorem d_V_dropPointers_47 : decode b_V_dropPointers 47 = .ok (.iload_n 1, 1) := by decide +kernel
theorem d_V_dropPointers_48 : decode b_V_dropPointers 48 = .ok (.iload 4, 2) := by decide +kernel
theorem d_V_dropPointers_50 : decode b_V_dropPointers 50 = .ok (.iconst 0, 1) := by decide +kernel
theorem d_V_dropPointers_51 : decode b_V_dropPointers 51 = .ok (.invokevirtual 73, 3) := by decide +kernel
theorem d_V_dropPointers_54 : decode b_V_dropPointers 54 = .ok (.iinc 3 1, 3) := by decide +kernel
theorem d_V_dropPointers_57 : decode b_V_dropPointers 57 = .ok (.iinc 4 1, 3) := by decide +kernel
theorem d_V_dropPointers_60 : decode b_V_dropPointers 60 = .ok (.goto (-55), 3) := by decide +kernel
theorem d_V_dropPointers_63 : decode b_V_dropPointers 63 = .ok (.iload_n 3, 1) := by decide +kernel
theorem d_V_dropPointers_64 : decode b_V_dropPointers 64 = .ok (.ireturn, 1) := by decide +kernel
abbrev b_V_giveInodeBack : ByteArray := prog_1_method_36_code
abbrev y_V_giveInodeBack : MethodName := ⟨"OrderedVolume", "giveInodeBack", "(I)V"⟩
abbrev o_V_giveInodeBack : Cond := .code y_V_giveInodeBack b_V_giveInodeBack 2 none
abbrev rm_V_giveInodeBack : Room := { frames := 2, cells := 0, slots := 0, locals := 48 }
theorem d_V_giveInodeBack_0 : decode b_V_giveInodeBack 0 = .ok (.aload_n 0, 1) := by decide +kernel
theorem d_V_giveInodeBack_1 : decode b_V_giveInodeBack 1 = .ok (.getfield 26, 3) := by decide +kernel
theorem d_V_giveInodeBack_4 : decode b_V_giveInodeBack 4 = .ok (.iload_n 1, 1) := by decide +kernel
theorem d_V_giveInodeBack_5 : decode b_V_giveInodeBack 5 = .ok (.iaload, 1) := by decide +kernel
theorem d_V_giveInodeBack_6 : decode b_V_giveInodeBack 6 = .ok (.iconst 1, 1) := by decide +kernel
theorem d_V_giveInodeBack_7 : decode b_V_giveInodeBack 7 = .ok (.if_icmp .ne 26, 3) := by decide +kernel
theorem d_V_giveInodeBack_10 : decode b_V_giveInodeBack 10 = .ok (.aload_n 0, 1) := by decide +kernel
theorem d_V_giveInodeBack_11 : decode b_V_giveInodeBack 11 = .ok (.iload_n 1, 1) := by decide +kernel
theorem d_V_giveInodeBack_12 : decode b_V_giveInodeBack 12 = .ok (.iconst 0, 1) := by decide +kernel
theorem d_V_giveInodeBack_13 : decode b_V_giveInodeBack 13 = .ok (.invokevirtual 126, 3) := by decide +kernel
theorem d_V_giveInodeBack_16 : decode b_V_giveInodeBack 16 = .ok (.pop, 1) := by decide +kernel
theorem d_V_giveInodeBack_17 : decode b_V_giveInodeBack 17 = .ok (.aload_n 0, 1) := by decide +kernel
theorem d_V_giveInodeBack_18 : decode b_V_giveInodeBack 18 = .ok (.getfield 10, 3) := by decide +kernel
theorem d_V_giveInodeBack_21 : decode b_V_giveInodeBack 21 = .ok (.iload_n 1, 1) := by decide +kernel
theorem d_V_giveInodeBack_22 : decode b_V_giveInodeBack 22 = .ok (.iconst 0, 1) := by decide +kernel
theorem d_V_giveInodeBack_23 : decode b_V_giveInodeBack 23 = .ok (.invokevirtual 63, 3) := by decide +kernel
theorem d_V_giveInodeBack_26 : decode b_V_giveInodeBack 26 = .ok (.aload_n 0, 1) := by decide +kernel
theorem d_V_giveInodeBack_27 : decode b_V_giveInodeBack 27 = .ok (.getfield 26, 3) := by decide +kernel
theorem d_V_giveInodeBack_30 : decode b_V_giveInodeBack 30 = .ok (.iload_n 1, 1) := by decide +kernel
theorem d_V_giveInodeBack_31 : decode b_V_giveInodeBack 31 = .ok (.iconst 2, 1) := by decide +kernel
theorem d_V_giveInodeBack_32 : decode b_V_giveInodeBack 32 = .ok (.iastore, 1) := by decide +kernel
theorem d_V_giveInodeBack_33 : decode b_V_giveInodeBack 33 = .ok (.aload_n 0, 1) := by decide +kernel
theorem d_V_giveInodeBack_34 : decode b_V_giveInodeBack 34 = .ok (.getfield 16, 3) := by decide +kernel
theorem d_V_giveInodeBack_37 : decode b_V_giveInodeBack 37 = .ok (.iload_n 1, 1) := by decide +kernel
theorem d_V_giveInodeBack_38 : decode b_V_giveInodeBack 38 = .ok (.invokevirtual 101, 3) := by decide +kernel
theorem d_V_giveInodeBack_41 : decode b_V_giveInodeBack 41 = .ok (.ifCond .ne 19, 3) := by decide +kernel
theorem d_V_giveInodeBack_44 : decode b_V_giveInodeBack 44 = .ok (.aload_n 0, 1) := by decide +kernel
theorem d_V_giveInodeBack_45 : decode b_V_giveInodeBack 45 = .ok (.getfield 10, 3) := by decide +kernel
theorem d_V_giveInodeBack_48 : decode b_V_giveInodeBack 48 = .ok (.iload_n 1, 1) := by decide +kernel
theorem d_V_giveInodeBack_49 : decode b_V_giveInodeBack 49 = .ok (.iconst 0, 1) := by decide +kernel
theorem d_V_giveInodeBack_50 : decode b_V_giveInodeBack 50 = .ok (.invokevirtual 59, 3) := by decide +kernel
theorem d_V_giveInodeBack_53 : decode b_V_giveInodeBack 53 = .ok (.aload_n 0, 1) := by decide +kernel
theorem d_V_giveInodeBack_54 : decode b_V_giveInodeBack 54 = .ok (.getfield 26, 3) := by decide +kernel
theorem d_V_giveInodeBack_57 : decode b_V_giveInodeBack 57 = .ok (.iload_n 1, 1) := by decide +kernel
theorem d_V_giveInodeBack_58 : decode b_V_giveInodeBack 58 = .ok (.iconst 0, 1) := by decide +kernel
theorem d_V_giveInodeBack_59 : decode b_V_giveInodeBack 59 = .ok (.iastore, 1) := by decide +kernel
theorem d_V_giveInodeBack_60 : decode b_V_giveInodeBack 60 = .ok (.return_, 1) := by decide +kernel
abbrev b_V_lowerLinks : ByteArray := prog_1_method_33_code
abbrev y_V_lowerLinks : MethodName := ⟨"OrderedVolume", "lowerLinks", "(I)V"⟩
abbrev o_V_lowerLinks : Cond := .code y_V_lowerLinks b_V_lowerLinks 3 none
abbrev rm_V_lowerLinks : Room := { frames := 1, cells := 0, slots := 0, locals := 22 }
theorem d_V_lowerLinks_0 : decode b_V_lowerLinks 0 = .ok (.iload_n 1, 1) := by decide +kernel
theorem d_V_lowerLinks_1 : decode b_V_lowerLinks 1 = .ok (.ifCond .ne 4, 3) := by decide +kernel
theorem d_V_lowerLinks_4 : decode b_V_lowerLinks 4 = .ok (.return_, 1) := by decide +kernel
theorem d_V_lowerLinks_5 : decode b_V_lowerLinks 5 = .ok (.aload_n 0, 1) := by decide +kernel
theorem d_V_lowerLinks_6 : decode b_V_lowerLinks 6 = .ok (.getfield 10, 3) := by decide +kernel
theorem d_V_lowerLinks_9 : decode b_V_lowerLinks 9 = .ok (.iload_n 1, 1) := by decide +kernel
theorem d_V_lowerLinks_10 : decode b_V_lowerLinks 10 = .ok (.invokevirtual 86, 3) := by decide +kernel
theorem d_V_lowerLinks_13 : decode b_V_lowerLinks 13 = .ok (.iconst 1, 1) := by decide +kernel
theorem d_V_lowerLinks_14 : decode b_V_lowerLinks 14 = .ok (.isub, 1) := by decide +kernel
theorem d_V_lowerLinks_15 : decode b_V_lowerLinks 15 = .ok (.istore_n 2, 1) := by decide +kernel
theorem d_V_lowerLinks_16 : decode b_V_lowerLinks 16 = .ok (.aload_n 0, 1) := by decide +kernel
theorem d_V_lowerLinks_17 : decode b_V_lowerLinks 17 = .ok (.getfield 10, 3) := by decide +kernel
theorem d_V_lowerLinks_20 : decode b_V_lowerLinks 20 = .ok (.iload_n 1, 1) := by decide +kernel
theorem d_V_lowerLinks_21 : decode b_V_lowerLinks 21 = .ok (.iload_n 2, 1) := by decide +kernel
theorem d_V_lowerLinks_22 : decode b_V_lowerLinks 22 = .ok (.invokevirtual 152, 3) := by decide +kernel
theorem d_V_lowerLinks_25 : decode b_V_lowerLinks 25 = .ok (.iload_n 2, 1) := by decide +kernel
theorem d_V_lowerLinks_26 : decode b_V_lowerLinks 26 = .ok (.ifCond .ne 10, 3) := by decide +kernel
theorem d_V_lowerLinks_29 : decode b_V_lowerLinks 29 = .ok (.aload_n 0, 1) := by decide +kernel
theorem d_V_lowerLinks_30 : decode b_V_lowerLinks 30 = .ok (.getfield 26, 3) := by decide +kernel
theorem d_V_lowerLinks_33 : decode b_V_lowerLinks 33 = .ok (.iload_n 1, 1) := by decide +kernel
theorem d_V_lowerLinks_34 : decode b_V_lowerLinks 34 = .ok (.iconst 1, 1) := by decide +kernel
theorem d_V_lowerLinks_35 : decode b_V_lowerLinks 35 = .ok (.iastore, 1) := by decide +kernel
theorem d_V_lowerLinks_36 : decode b_V_lowerLinks 36 = .ok (.return_, 1) := by decide +kernel
abbrev b_V_freeBlock : ByteArray := prog_1_method_37_code
abbrev y_V_freeBlock : MethodName := ⟨"OrderedVolume", "freeBlock", "(I)V"⟩
abbrev o_V_freeBlock : Cond := .code y_V_freeBlock b_V_freeBlock 4 none
abbrev rm_V_freeBlock : Room := { frames := 2, cells := 0, slots := 0, locals := 44 }
theorem d_V_freeBlock_0 : decode b_V_freeBlock 0 = .ok (.aload_n 0, 1) := by decide +kernel
theorem d_V_freeBlock_1 : decode b_V_freeBlock 1 = .ok (.getfield 23, 3) := by decide +kernel
theorem d_V_freeBlock_4 : decode b_V_freeBlock 4 = .ok (.iload_n 1, 1) := by decide +kernel
theorem d_V_freeBlock_5 : decode b_V_freeBlock 5 = .ok (.iaload, 1) := by decide +kernel
theorem d_V_freeBlock_6 : decode b_V_freeBlock 6 = .ok (.iconst 2, 1) := by decide +kernel
theorem d_V_freeBlock_7 : decode b_V_freeBlock 7 = .ok (.if_icmp .ne 39, 3) := by decide +kernel
theorem d_V_freeBlock_10 : decode b_V_freeBlock 10 = .ok (.iconst 0, 1) := by decide +kernel
theorem d_V_freeBlock_11 : decode b_V_freeBlock 11 = .ok (.istore_n 2, 1) := by decide +kernel
theorem d_V_freeBlock_12 : decode b_V_freeBlock 12 = .ok (.iload_n 2, 1) := by decide +kernel
theorem d_V_freeBlock_13 : decode b_V_freeBlock 13 = .ok (.bipush 8, 2) := by decide +kernel
theorem d_V_freeBlock_15 : decode b_V_freeBlock 15 = .ok (.if_icmp .ge 31, 3) := by decide +kernel
theorem d_V_freeBlock_18 : decode b_V_freeBlock 18 = .ok (.aload_n 0, 1) := by decide +kernel
theorem d_V_freeBlock_19 : decode b_V_freeBlock 19 = .ok (.getfield 16, 3) := by decide +kernel
theorem d_V_freeBlock_22 : decode b_V_freeBlock 22 = .ok (.iload_n 1, 1) := by decide +kernel
theorem d_V_freeBlock_23 : decode b_V_freeBlock 23 = .ok (.iload_n 2, 1) := by decide +kernel
theorem d_V_freeBlock_24 : decode b_V_freeBlock 24 = .ok (.invokevirtual 123, 3) := by decide +kernel
theorem d_V_freeBlock_27 : decode b_V_freeBlock 27 = .ok (.istore_n 3, 1) := by decide +kernel
theorem d_V_freeBlock_28 : decode b_V_freeBlock 28 = .ok (.iload_n 3, 1) := by decide +kernel
theorem d_V_freeBlock_29 : decode b_V_freeBlock 29 = .ok (.ifCond .eq 11, 3) := by decide +kernel
theorem d_V_freeBlock_32 : decode b_V_freeBlock 32 = .ok (.aload_n 0, 1) := by decide +kernel
theorem d_V_freeBlock_33 : decode b_V_freeBlock 33 = .ok (.iload_n 3, 1) := by decide +kernel
theorem d_V_freeBlock_34 : decode b_V_freeBlock 34 = .ok (.bipush 32, 2) := by decide +kernel
theorem d_V_freeBlock_36 : decode b_V_freeBlock 36 = .ok (.irem, 1) := by decide +kernel
theorem d_V_freeBlock_37 : decode b_V_freeBlock 37 = .ok (.invokevirtual 200, 3) := by decide +kernel
theorem d_V_freeBlock_40 : decode b_V_freeBlock 40 = .ok (.iinc 2 1, 3) := by decide +kernel
theorem d_V_freeBlock_43 : decode b_V_freeBlock 43 = .ok (.goto (-31), 3) := by decide +kernel
theorem d_V_freeBlock_46 : decode b_V_freeBlock 46 = .ok (.aload_n 0, 1) := by decide +kernel
theorem d_V_freeBlock_47 : decode b_V_freeBlock 47 = .ok (.getfield 23, 3) := by decide +kernel
theorem d_V_freeBlock_50 : decode b_V_freeBlock 50 = .ok (.iload_n 1, 1) := by decide +kernel
theorem d_V_freeBlock_51 : decode b_V_freeBlock 51 = .ok (.iconst 0, 1) := by decide +kernel
theorem d_V_freeBlock_52 : decode b_V_freeBlock 52 = .ok (.iastore, 1) := by decide +kernel
theorem d_V_freeBlock_53 : decode b_V_freeBlock 53 = .ok (.aload_n 0, 1) := by decide +kernel
theorem d_V_freeBlock_54 : decode b_V_freeBlock 54 = .ok (.getfield 10, 3) := by decide +kernel
theorem d_V_freeBlock_57 : decode b_V_freeBlock 57 = .ok (.iload_n 1, 1) := by decide +kernel
theorem d_V_freeBlock_58 : decode b_V_freeBlock 58 = .ok (.iconst 0, 1) := by decide +kernel
theorem d_V_freeBlock_59 : decode b_V_freeBlock 59 = .ok (.invokevirtual 164, 3) := by decide +kernel
theorem d_V_freeBlock_62 : decode b_V_freeBlock 62 = .ok (.return_, 1) := by decide +kernel
abbrev b_V_giveBack : ByteArray := prog_1_method_35_code
abbrev y_V_giveBack : MethodName := ⟨"OrderedVolume", "giveBack", "()V"⟩
abbrev o_V_giveBack : Cond := .code y_V_giveBack b_V_giveBack 4 none
abbrev rm_V_giveBack : Room := { frames := 3, cells := 0, slots := 0, locals := 69 }
theorem d_V_giveBack_0 : decode b_V_giveBack 0 = .ok (.iconst 1, 1) := by decide +kernel
theorem d_V_giveBack_1 : decode b_V_giveBack 1 = .ok (.istore_n 1, 1) := by decide +kernel
theorem d_V_giveBack_2 : decode b_V_giveBack 2 = .ok (.iconst 0, 1) := by decide +kernel
theorem d_V_giveBack_3 : decode b_V_giveBack 3 = .ok (.istore_n 2, 1) := by decide +kernel
theorem d_V_giveBack_4 : decode b_V_giveBack 4 = .ok (.iload_n 1, 1) := by decide +kernel
theorem d_V_giveBack_5 : decode b_V_giveBack 5 = .ok (.ifCond .eq 88, 3) := by decide +kernel
theorem d_V_giveBack_8 : decode b_V_giveBack 8 = .ok (.iload_n 2, 1) := by decide +kernel
theorem d_V_giveBack_9 : decode b_V_giveBack 9 = .ok (.sipush 1000, 3) := by decide +kernel
theorem d_V_giveBack_12 : decode b_V_giveBack 12 = .ok (.if_icmp .ge 81, 3) := by decide +kernel
theorem d_V_giveBack_15 : decode b_V_giveBack 15 = .ok (.iconst 0, 1) := by decide +kernel
theorem d_V_giveBack_16 : decode b_V_giveBack 16 = .ok (.istore_n 1, 1) := by decide +kernel
theorem d_V_giveBack_17 : decode b_V_giveBack 17 = .ok (.iconst 0, 1) := by decide +kernel
theorem d_V_giveBack_18 : decode b_V_giveBack 18 = .ok (.istore_n 3, 1) := by decide +kernel
theorem d_V_giveBack_19 : decode b_V_giveBack 19 = .ok (.iload_n 3, 1) := by decide +kernel
theorem d_V_giveBack_20 : decode b_V_giveBack 20 = .ok (.bipush 18, 2) := by decide +kernel
theorem d_V_giveBack_22 : decode b_V_giveBack 22 = .ok (.if_icmp .ge 23, 3) := by decide +kernel
theorem d_V_giveBack_25 : decode b_V_giveBack 25 = .ok (.aload_n 0, 1) := by decide +kernel
theorem d_V_giveBack_26 : decode b_V_giveBack 26 = .ok (.getfield 26, 3) := by decide +kernel
theorem d_V_giveBack_29 : decode b_V_giveBack 29 = .ok (.iload_n 3, 1) := by decide +kernel
theorem d_V_giveBack_30 : decode b_V_giveBack 30 = .ok (.iaload, 1) := by decide +kernel
theorem d_V_giveBack_31 : decode b_V_giveBack 31 = .ok (.ifCond .eq 8, 3) := by decide +kernel
theorem d_V_giveBack_34 : decode b_V_giveBack 34 = .ok (.aload_n 0, 1) := by decide +kernel
theorem d_V_giveBack_35 : decode b_V_giveBack 35 = .ok (.iload_n 3, 1) := by decide +kernel
theorem d_V_giveBack_36 : decode b_V_giveBack 36 = .ok (.invokevirtual 203, 3) := by decide +kernel
theorem d_V_giveBack_39 : decode b_V_giveBack 39 = .ok (.iinc 3 1, 3) := by decide +kernel
theorem d_V_giveBack_42 : decode b_V_giveBack 42 = .ok (.goto (-23), 3) := by decide +kernel
theorem d_V_giveBack_45 : decode b_V_giveBack 45 = .ok (.iconst 0, 1) := by decide +kernel
theorem d_V_giveBack_46 : decode b_V_giveBack 46 = .ok (.istore_n 3, 1) := by decide +kernel
theorem d_V_giveBack_47 : decode b_V_giveBack 47 = .ok (.iload_n 3, 1) := by decide +kernel
theorem d_V_giveBack_48 : decode b_V_giveBack 48 = .ok (.bipush 36, 2) := by decide +kernel
theorem d_V_giveBack_50 : decode b_V_giveBack 50 = .ok (.if_icmp .ge 37, 3) := by decide +kernel
theorem d_V_giveBack_53 : decode b_V_giveBack 53 = .ok (.aload_n 0, 1) := by decide +kernel
theorem d_V_giveBack_54 : decode b_V_giveBack 54 = .ok (.getfield 23, 3) := by decide +kernel
theorem d_V_giveBack_57 : decode b_V_giveBack 57 = .ok (.iload_n 3, 1) := by decide +kernel
theorem d_V_giveBack_58 : decode b_V_giveBack 58 = .ok (.iaload, 1) := by decide +kernel
theorem d_V_giveBack_59 : decode b_V_giveBack 59 = .ok (.ifCond .eq 22, 3) := by decide +kernel
theorem d_V_giveBack_62 : decode b_V_giveBack 62 = .ok (.aload_n 0, 1) := by decide +kernel
theorem d_V_giveBack_63 : decode b_V_giveBack 63 = .ok (.getfield 16, 3) := by decide +kernel
theorem d_V_giveBack_66 : decode b_V_giveBack 66 = .ok (.iload_n 3, 1) := by decide +kernel
theorem d_V_giveBack_67 : decode b_V_giveBack 67 = .ok (.invokevirtual 206, 3) := by decide +kernel
theorem d_V_giveBack_70 : decode b_V_giveBack 70 = .ok (.iconst (-1), 1) := by decide +kernel
theorem d_V_giveBack_71 : decode b_V_giveBack 71 = .ok (.if_icmp .ne 10, 3) := by decide +kernel
theorem d_V_giveBack_74 : decode b_V_giveBack 74 = .ok (.aload_n 0, 1) := by decide +kernel
theorem d_V_giveBack_75 : decode b_V_giveBack 75 = .ok (.iload_n 3, 1) := by decide +kernel
theorem d_V_giveBack_76 : decode b_V_giveBack 76 = .ok (.invokevirtual 209, 3) := by decide +kernel
theorem d_V_giveBack_79 : decode b_V_giveBack 79 = .ok (.iconst 1, 1) := by decide +kernel
theorem d_V_giveBack_80 : decode b_V_giveBack 80 = .ok (.istore_n 1, 1) := by decide +kernel
theorem d_V_giveBack_81 : decode b_V_giveBack 81 = .ok (.iinc 3 1, 3) := by decide +kernel
theorem d_V_giveBack_84 : decode b_V_giveBack 84 = .ok (.goto (-37), 3) := by decide +kernel
theorem d_V_giveBack_87 : decode b_V_giveBack 87 = .ok (.iinc 2 1, 3) := by decide +kernel
theorem d_V_giveBack_90 : decode b_V_giveBack 90 = .ok (.goto (-86), 3) := by decide +kernel
theorem d_V_giveBack_93 : decode b_V_giveBack 93 = .ok (.return_, 1) := by decide +kernel
abbrev b_V_isNotOnDisk : ByteArray := prog_1_method_42_code
abbrev y_V_isNotOnDisk : MethodName := ⟨"OrderedVolume", "isNotOnDisk", "(I)Z"⟩
abbrev o_V_isNotOnDisk : Cond := .code y_V_isNotOnDisk b_V_isNotOnDisk 2 (some .boolean)
abbrev rm_V_isNotOnDisk : Room := { frames := 1, cells := 0, slots := 0, locals := 21 }
theorem d_V_isNotOnDisk_0 : decode b_V_isNotOnDisk 0 = .ok (.iload_n 1, 1) := by decide +kernel
theorem d_V_isNotOnDisk_1 : decode b_V_isNotOnDisk 1 = .ok (.ifCond .eq 29, 3) := by decide +kernel
theorem d_V_isNotOnDisk_4 : decode b_V_isNotOnDisk 4 = .ok (.aload_n 0, 1) := by decide +kernel
theorem d_V_isNotOnDisk_5 : decode b_V_isNotOnDisk 5 = .ok (.getfield 16, 3) := by decide +kernel
theorem d_V_isNotOnDisk_8 : decode b_V_isNotOnDisk 8 = .ok (.iload_n 1, 1) := by decide +kernel
theorem d_V_isNotOnDisk_9 : decode b_V_isNotOnDisk 9 = .ok (.invokevirtual 161, 3) := by decide +kernel
theorem d_V_isNotOnDisk_12 : decode b_V_isNotOnDisk 12 = .ok (.ifCond .eq 14, 3) := by decide +kernel
theorem d_V_isNotOnDisk_15 : decode b_V_isNotOnDisk 15 = .ok (.aload_n 0, 1) := by decide +kernel
theorem d_V_isNotOnDisk_16 : decode b_V_isNotOnDisk 16 = .ok (.getfield 16, 3) := by decide +kernel
theorem d_V_isNotOnDisk_19 : decode b_V_isNotOnDisk 19 = .ok (.iload_n 1, 1) := by decide +kernel
theorem d_V_isNotOnDisk_20 : decode b_V_isNotOnDisk 20 = .ok (.invokevirtual 216, 3) := by decide +kernel
theorem d_V_isNotOnDisk_23 : decode b_V_isNotOnDisk 23 = .ok (.ifCond .eq 7, 3) := by decide +kernel
theorem d_V_isNotOnDisk_26 : decode b_V_isNotOnDisk 26 = .ok (.iconst 1, 1) := by decide +kernel
theorem d_V_isNotOnDisk_27 : decode b_V_isNotOnDisk 27 = .ok (.goto 4, 3) := by decide +kernel
theorem d_V_isNotOnDisk_30 : decode b_V_isNotOnDisk 30 = .ok (.iconst 0, 1) := by decide +kernel
theorem d_V_isNotOnDisk_31 : decode b_V_isNotOnDisk 31 = .ok (.ireturn, 1) := by decide +kernel
abbrev b_V_endYouth : ByteArray := prog_1_method_43_code
abbrev y_V_endYouth : MethodName := ⟨"OrderedVolume", "endYouth", "(I)V"⟩
abbrev o_V_endYouth : Cond := .code y_V_endYouth b_V_endYouth 5 none
abbrev rm_V_endYouth : Room := { frames := 1, cells := 0, slots := 0, locals := 22 }
theorem d_V_endYouth_0 : decode b_V_endYouth 0 = .ok (.iconst 0, 1) := by decide +kernel
theorem d_V_endYouth_1 : decode b_V_endYouth 1 = .ok (.istore_n 2, 1) := by decide +kernel
theorem d_V_endYouth_2 : decode b_V_endYouth 2 = .ok (.iload_n 2, 1) := by decide +kernel
theorem d_V_endYouth_3 : decode b_V_endYouth 3 = .ok (.bipush 36, 2) := by decide +kernel
theorem d_V_endYouth_5 : decode b_V_endYouth 5 = .ok (.if_icmp .ge 85, 3) := by decide +kernel
theorem d_V_endYouth_8 : decode b_V_endYouth 8 = .ok (.aload_n 0, 1) := by decide +kernel
theorem d_V_endYouth_9 : decode b_V_endYouth 9 = .ok (.getfield 19, 3) := by decide +kernel
theorem d_V_endYouth_12 : decode b_V_endYouth 12 = .ok (.iload_n 2, 1) := by decide +kernel
theorem d_V_endYouth_13 : decode b_V_endYouth 13 = .ok (.iaload, 1) := by decide +kernel
theorem d_V_endYouth_14 : decode b_V_endYouth 14 = .ok (.ifCond .ne 6, 3) := by decide +kernel
theorem d_V_endYouth_17 : decode b_V_endYouth 17 = .ok (.goto 67, 3) := by decide +kernel
theorem d_V_endYouth_20 : decode b_V_endYouth 20 = .ok (.iconst 0, 1) := by decide +kernel
theorem d_V_endYouth_21 : decode b_V_endYouth 21 = .ok (.istore_n 3, 1) := by decide +kernel
theorem d_V_endYouth_22 : decode b_V_endYouth 22 = .ok (.iload_n 3, 1) := by decide +kernel
theorem d_V_endYouth_23 : decode b_V_endYouth 23 = .ok (.bipush 8, 2) := by decide +kernel
theorem d_V_endYouth_25 : decode b_V_endYouth 25 = .ok (.if_icmp .ge 59, 3) := by decide +kernel
theorem d_V_endYouth_28 : decode b_V_endYouth 28 = .ok (.aload_n 0, 1) := by decide +kernel
theorem d_V_endYouth_29 : decode b_V_endYouth 29 = .ok (.getfield 10, 3) := by decide +kernel
theorem d_V_endYouth_32 : decode b_V_endYouth 32 = .ok (.iload_n 2, 1) := by decide +kernel
theorem d_V_endYouth_33 : decode b_V_endYouth 33 = .ok (.iload_n 3, 1) := by decide +kernel
theorem d_V_endYouth_34 : decode b_V_endYouth 34 = .ok (.invokevirtual 123, 3) := by decide +kernel
theorem d_V_endYouth_37 : decode b_V_endYouth 37 = .ok (.bipush 32, 2) := by decide +kernel
theorem d_V_endYouth_39 : decode b_V_endYouth 39 = .ok (.irem, 1) := by decide +kernel
theorem d_V_endYouth_40 : decode b_V_endYouth 40 = .ok (.istore 4, 2) := by decide +kernel
theorem d_V_endYouth_42 : decode b_V_endYouth 42 = .ok (.aload_n 0, 1) := by decide +kernel
theorem d_V_endYouth_43 : decode b_V_endYouth 43 = .ok (.getfield 19, 3) := by decide +kernel
theorem d_V_endYouth_46 : decode b_V_endYouth 46 = .ok (.iload_n 2, 1) := by decide +kernel
theorem d_V_endYouth_47 : decode b_V_endYouth 47 = .ok (.iaload, 1) := by decide +kernel
theorem d_V_endYouth_48 : decode b_V_endYouth 48 = .ok (.iload_n 3, 1) := by decide +kernel
theorem d_V_endYouth_49 : decode b_V_endYouth 49 = .ok (.invokestatic 107, 3) := by decide +kernel
theorem d_V_endYouth_52 : decode b_V_endYouth 52 = .ok (.ifCond .eq 26, 3) := by decide +kernel
theorem d_V_endYouth_55 : decode b_V_endYouth 55 = .ok (.iload 4, 2) := by decide +kernel
theorem d_V_endYouth_57 : decode b_V_endYouth 57 = .ok (.bipush 6, 2) := by decide +kernel
theorem d_V_endYouth_59 : decode b_V_endYouth 59 = .ok (.idiv, 1) := by decide +kernel
theorem d_V_endYouth_60 : decode b_V_endYouth 60 = .ok (.iload_n 1, 1) := by decide +kernel
theorem d_V_endYouth_61 : decode b_V_endYouth 61 = .ok (.if_icmp .ne 17, 3) := by decide +kernel
theorem d_V_endYouth_64 : decode b_V_endYouth 64 = .ok (.aload_n 0, 1) := by decide +kernel
theorem d_V_endYouth_65 : decode b_V_endYouth 65 = .ok (.getfield 19, 3) := by decide +kernel
theorem d_V_endYouth_68 : decode b_V_endYouth 68 = .ok (.iload_n 2, 1) := by decide +kernel
theorem d_V_endYouth_69 : decode b_V_endYouth 69 = .ok (.dup2, 1) := by decide +kernel
theorem d_V_endYouth_70 : decode b_V_endYouth 70 = .ok (.iaload, 1) := by decide +kernel
theorem d_V_endYouth_71 : decode b_V_endYouth 71 = .ok (.iconst 1, 1) := by decide +kernel
theorem d_V_endYouth_72 : decode b_V_endYouth 72 = .ok (.iload_n 3, 1) := by decide +kernel
theorem d_V_endYouth_73 : decode b_V_endYouth 73 = .ok (.ishl, 1) := by decide +kernel
theorem d_V_endYouth_74 : decode b_V_endYouth 74 = .ok (.iconst (-1), 1) := by decide +kernel
theorem d_V_endYouth_75 : decode b_V_endYouth 75 = .ok (.ixor, 1) := by decide +kernel
theorem d_V_endYouth_76 : decode b_V_endYouth 76 = .ok (.iand, 1) := by decide +kernel
theorem d_V_endYouth_77 : decode b_V_endYouth 77 = .ok (.iastore, 1) := by decide +kernel
theorem d_V_endYouth_78 : decode b_V_endYouth 78 = .ok (.iinc 3 1, 3) := by decide +kernel
theorem d_V_endYouth_81 : decode b_V_endYouth 81 = .ok (.goto (-59), 3) := by decide +kernel
theorem d_V_endYouth_84 : decode b_V_endYouth 84 = .ok (.iinc 2 1, 3) := by decide +kernel
theorem d_V_endYouth_87 : decode b_V_endYouth 87 = .ok (.goto (-85), 3) := by decide +kernel
theorem d_V_endYouth_90 : decode b_V_endYouth 90 = .ok (.return_, 1) := by decide +kernel
abbrev b_V_writeTable : ByteArray := prog_1_method_41_code
abbrev y_V_writeTable : MethodName := ⟨"OrderedVolume", "writeTable", "(I)I"⟩
abbrev o_V_writeTable : Cond := .code y_V_writeTable b_V_writeTable 7 (some .int)
abbrev rm_V_writeTable : Room := { frames := 2, cells := 0, slots := 0, locals := 46 }
theorem d_V_writeTable_0 : decode b_V_writeTable 0 = .ok (.iconst 0, 1) := by decide +kernel
theorem d_V_writeTable_1 : decode b_V_writeTable 1 = .ok (.istore_n 2, 1) := by decide +kernel
theorem d_V_writeTable_2 : decode b_V_writeTable 2 = .ok (.iload_n 1, 1) := by decide +kernel
theorem d_V_writeTable_3 : decode b_V_writeTable 3 = .ok (.bipush 6, 2) := by decide +kernel
theorem d_V_writeTable_5 : decode b_V_writeTable 5 = .ok (.imul, 1) := by decide +kernel
theorem d_V_writeTable_6 : decode b_V_writeTable 6 = .ok (.istore_n 3, 1) := by decide +kernel
theorem d_V_writeTable_7 : decode b_V_writeTable 7 = .ok (.iload_n 3, 1) := by decide +kernel
theorem d_V_writeTable_8 : decode b_V_writeTable 8 = .ok (.istore 4, 2) := by decide +kernel
theorem d_V_writeTable_10 : decode b_V_writeTable 10 = .ok (.iload 4, 2) := by decide +kernel
theorem d_V_writeTable_12 : decode b_V_writeTable 12 = .ok (.iload_n 3, 1) := by decide +kernel
theorem d_V_writeTable_13 : decode b_V_writeTable 13 = .ok (.bipush 6, 2) := by decide +kernel
theorem d_V_writeTable_15 : decode b_V_writeTable 15 = .ok (.iadd, 1) := by decide +kernel
theorem d_V_writeTable_16 : decode b_V_writeTable 16 = .ok (.if_icmp .ge 117, 3) := by decide +kernel
theorem d_V_writeTable_19 : decode b_V_writeTable 19 = .ok (.aload_n 0, 1) := by decide +kernel
theorem d_V_writeTable_20 : decode b_V_writeTable 20 = .ok (.getfield 16, 3) := by decide +kernel
theorem d_V_writeTable_23 : decode b_V_writeTable 23 = .ok (.iload 4, 2) := by decide +kernel
theorem d_V_writeTable_25 : decode b_V_writeTable 25 = .ok (.aload_n 0, 1) := by decide +kernel
theorem d_V_writeTable_26 : decode b_V_writeTable 26 = .ok (.getfield 10, 3) := by decide +kernel
theorem d_V_writeTable_29 : decode b_V_writeTable 29 = .ok (.iload 4, 2) := by decide +kernel
theorem d_V_writeTable_31 : decode b_V_writeTable 31 = .ok (.invokevirtual 101, 3) := by decide +kernel
theorem d_V_writeTable_34 : decode b_V_writeTable 34 = .ok (.invokevirtual 63, 3) := by decide +kernel
theorem d_V_writeTable_37 : decode b_V_writeTable 37 = .ok (.aload_n 0, 1) := by decide +kernel
theorem d_V_writeTable_38 : decode b_V_writeTable 38 = .ok (.getfield 16, 3) := by decide +kernel
theorem d_V_writeTable_41 : decode b_V_writeTable 41 = .ok (.iload 4, 2) := by decide +kernel
theorem d_V_writeTable_43 : decode b_V_writeTable 43 = .ok (.aload_n 0, 1) := by decide +kernel
theorem d_V_writeTable_44 : decode b_V_writeTable 44 = .ok (.getfield 10, 3) := by decide +kernel
theorem d_V_writeTable_47 : decode b_V_writeTable 47 = .ok (.iload 4, 2) := by decide +kernel
theorem d_V_writeTable_49 : decode b_V_writeTable 49 = .ok (.invokevirtual 86, 3) := by decide +kernel
theorem d_V_writeTable_52 : decode b_V_writeTable 52 = .ok (.invokevirtual 152, 3) := by decide +kernel
theorem d_V_writeTable_55 : decode b_V_writeTable 55 = .ok (.iconst 0, 1) := by decide +kernel
theorem d_V_writeTable_56 : decode b_V_writeTable 56 = .ok (.istore 5, 2) := by decide +kernel
theorem d_V_writeTable_58 : decode b_V_writeTable 58 = .ok (.iload 5, 2) := by decide +kernel
theorem d_V_writeTable_60 : decode b_V_writeTable 60 = .ok (.iconst 3, 1) := by decide +kernel
theorem d_V_writeTable_61 : decode b_V_writeTable 61 = .ok (.if_icmp .ge 66, 3) := by decide +kernel
theorem d_V_writeTable_64 : decode b_V_writeTable 64 = .ok (.aload_n 0, 1) := by decide +kernel
theorem d_V_writeTable_65 : decode b_V_writeTable 65 = .ok (.getfield 10, 3) := by decide +kernel
theorem d_V_writeTable_68 : decode b_V_writeTable 68 = .ok (.iload 4, 2) := by decide +kernel
theorem d_V_writeTable_70 : decode b_V_writeTable 70 = .ok (.iload 5, 2) := by decide +kernel
theorem d_V_writeTable_72 : decode b_V_writeTable 72 = .ok (.invokevirtual 114, 3) := by decide +kernel
theorem d_V_writeTable_75 : decode b_V_writeTable 75 = .ok (.istore 6, 2) := by decide +kernel
theorem d_V_writeTable_77 : decode b_V_writeTable 77 = .ok (.iload 6, 2) := by decide +kernel
theorem d_V_writeTable_79 : decode b_V_writeTable 79 = .ok (.aload_n 0, 1) := by decide +kernel
theorem d_V_writeTable_80 : decode b_V_writeTable 80 = .ok (.getfield 16, 3) := by decide +kernel
theorem d_V_writeTable_83 : decode b_V_writeTable 83 = .ok (.iload 4, 2) := by decide +kernel
theorem d_V_writeTable_85 : decode b_V_writeTable 85 = .ok (.iload 5, 2) := by decide +kernel
theorem d_V_writeTable_87 : decode b_V_writeTable 87 = .ok (.invokevirtual 114, 3) := by decide +kernel
theorem d_V_writeTable_90 : decode b_V_writeTable 90 = .ok (.if_icmp .eq 18, 3) := by decide +kernel
theorem d_V_writeTable_93 : decode b_V_writeTable 93 = .ok (.aload_n 0, 1) := by decide +kernel
theorem d_V_writeTable_94 : decode b_V_writeTable 94 = .ok (.iload 6, 2) := by decide +kernel
theorem d_V_writeTable_96 : decode b_V_writeTable 96 = .ok (.invokevirtual 229, 3) := by decide +kernel
theorem d_V_writeTable_99 : decode b_V_writeTable 99 = .ok (.ifCond .eq 9, 3) := by decide +kernel
theorem d_V_writeTable_102 : decode b_V_writeTable 102 = .ok (.iinc 2 1, 3) := by decide +kernel
theorem d_V_writeTable_105 : decode b_V_writeTable 105 = .ok (.goto 16, 3) := by decide +kernel
theorem d_V_writeTable_108 : decode b_V_writeTable 108 = .ok (.aload_n 0, 1) := by decide +kernel
theorem d_V_writeTable_109 : decode b_V_writeTable 109 = .ok (.getfield 16, 3) := by decide +kernel
theorem d_V_writeTable_112 : decode b_V_writeTable 112 = .ok (.iload 4, 2) := by decide +kernel
theorem d_V_writeTable_114 : decode b_V_writeTable 114 = .ok (.iload 5, 2) := by decide +kernel
theorem d_V_writeTable_116 : decode b_V_writeTable 116 = .ok (.iload 6, 2) := by decide +kernel
theorem d_V_writeTable_118 : decode b_V_writeTable 118 = .ok (.invokevirtual 73, 3) := by decide +kernel
theorem d_V_writeTable_121 : decode b_V_writeTable 121 = .ok (.iinc 5 1, 3) := by decide +kernel
theorem d_V_writeTable_124 : decode b_V_writeTable 124 = .ok (.goto (-66), 3) := by decide +kernel
theorem d_V_writeTable_127 : decode b_V_writeTable 127 = .ok (.iinc 4 1, 3) := by decide +kernel
theorem d_V_writeTable_130 : decode b_V_writeTable 130 = .ok (.goto (-120), 3) := by decide +kernel
theorem d_V_writeTable_133 : decode b_V_writeTable 133 = .ok (.aload_n 0, 1) := by decide +kernel
theorem d_V_writeTable_134 : decode b_V_writeTable 134 = .ok (.iload_n 1, 1) := by decide +kernel
theorem d_V_writeTable_135 : decode b_V_writeTable 135 = .ok (.invokevirtual 232, 3) := by decide +kernel
theorem d_V_writeTable_138 : decode b_V_writeTable 138 = .ok (.iload_n 2, 1) := by decide +kernel
theorem d_V_writeTable_139 : decode b_V_writeTable 139 = .ok (.ireturn, 1) := by decide +kernel
abbrev b_V_mustWait : ByteArray := prog_1_method_45_code
abbrev y_V_mustWait : MethodName := ⟨"OrderedVolume", "mustWait", "(II)Z"⟩
abbrev o_V_mustWait : Cond := .code y_V_mustWait b_V_mustWait 4 (some .boolean)
abbrev rm_V_mustWait : Room := { frames := 1, cells := 0, slots := 0, locals := 22 }
theorem d_V_mustWait_0 : decode b_V_mustWait 0 = .ok (.aload_n 0, 1) := by decide +kernel
theorem d_V_mustWait_1 : decode b_V_mustWait 1 = .ok (.getfield 10, 3) := by decide +kernel
theorem d_V_mustWait_4 : decode b_V_mustWait 4 = .ok (.iload_n 1, 1) := by decide +kernel
theorem d_V_mustWait_5 : decode b_V_mustWait 5 = .ok (.iload_n 2, 1) := by decide +kernel
theorem d_V_mustWait_6 : decode b_V_mustWait 6 = .ok (.invokevirtual 123, 3) := by decide +kernel
theorem d_V_mustWait_9 : decode b_V_mustWait 9 = .ok (.bipush 32, 2) := by decide +kernel
theorem d_V_mustWait_11 : decode b_V_mustWait 11 = .ok (.irem, 1) := by decide +kernel
theorem d_V_mustWait_12 : decode b_V_mustWait 12 = .ok (.istore_n 3, 1) := by decide +kernel
theorem d_V_mustWait_13 : decode b_V_mustWait 13 = .ok (.aload_n 0, 1) := by decide +kernel
theorem d_V_mustWait_14 : decode b_V_mustWait 14 = .ok (.getfield 19, 3) := by decide +kernel
theorem d_V_mustWait_17 : decode b_V_mustWait 17 = .ok (.iload_n 1, 1) := by decide +kernel
theorem d_V_mustWait_18 : decode b_V_mustWait 18 = .ok (.iaload, 1) := by decide +kernel
theorem d_V_mustWait_19 : decode b_V_mustWait 19 = .ok (.iload_n 2, 1) := by decide +kernel
theorem d_V_mustWait_20 : decode b_V_mustWait 20 = .ok (.invokestatic 107, 3) := by decide +kernel
theorem d_V_mustWait_23 : decode b_V_mustWait 23 = .ok (.ifCond .ne 38, 3) := by decide +kernel
theorem d_V_mustWait_26 : decode b_V_mustWait 26 = .ok (.aload_n 0, 1) := by decide +kernel
theorem d_V_mustWait_27 : decode b_V_mustWait 27 = .ok (.getfield 16, 3) := by decide +kernel
theorem d_V_mustWait_30 : decode b_V_mustWait 30 = .ok (.iload_n 3, 1) := by decide +kernel
theorem d_V_mustWait_31 : decode b_V_mustWait 31 = .ok (.invokevirtual 143, 3) := by decide +kernel
theorem d_V_mustWait_34 : decode b_V_mustWait 34 = .ok (.ifCond .eq 27, 3) := by decide +kernel
theorem d_V_mustWait_37 : decode b_V_mustWait 37 = .ok (.aload_n 0, 1) := by decide +kernel
theorem d_V_mustWait_38 : decode b_V_mustWait 38 = .ok (.getfield 10, 3) := by decide +kernel
theorem d_V_mustWait_41 : decode b_V_mustWait 41 = .ok (.iload_n 3, 1) := by decide +kernel
theorem d_V_mustWait_42 : decode b_V_mustWait 42 = .ok (.invokevirtual 101, 3) := by decide +kernel
theorem d_V_mustWait_45 : decode b_V_mustWait 45 = .ok (.iconst 2, 1) := by decide +kernel
theorem d_V_mustWait_46 : decode b_V_mustWait 46 = .ok (.if_icmp .ne 19, 3) := by decide +kernel
theorem d_V_mustWait_49 : decode b_V_mustWait 49 = .ok (.aload_n 0, 1) := by decide +kernel
theorem d_V_mustWait_50 : decode b_V_mustWait 50 = .ok (.getfield 16, 3) := by decide +kernel
theorem d_V_mustWait_53 : decode b_V_mustWait 53 = .ok (.iload_n 3, 1) := by decide +kernel
theorem d_V_mustWait_54 : decode b_V_mustWait 54 = .ok (.iconst 0, 1) := by decide +kernel
theorem d_V_mustWait_55 : decode b_V_mustWait 55 = .ok (.invokevirtual 114, 3) := by decide +kernel
theorem d_V_mustWait_58 : decode b_V_mustWait 58 = .ok (.ifCond .ne 7, 3) := by decide +kernel
theorem d_V_mustWait_61 : decode b_V_mustWait 61 = .ok (.iconst 1, 1) := by decide +kernel
theorem d_V_mustWait_62 : decode b_V_mustWait 62 = .ok (.goto 4, 3) := by decide +kernel
theorem d_V_mustWait_65 : decode b_V_mustWait 65 = .ok (.iconst 0, 1) := by decide +kernel
theorem d_V_mustWait_66 : decode b_V_mustWait 66 = .ok (.ireturn, 1) := by decide +kernel
abbrev b_V_mustStay : ByteArray := prog_1_method_46_code
abbrev y_V_mustStay : MethodName := ⟨"OrderedVolume", "mustStay", "(II)Z"⟩
abbrev o_V_mustStay : Cond := .code y_V_mustStay b_V_mustStay 6 (some .boolean)
abbrev rm_V_mustStay : Room := { frames := 2, cells := 0, slots := 0, locals := 50 }
theorem d_V_mustStay_0 : decode b_V_mustStay 0 = .ok (.aload_n 0, 1) := by decide +kernel
theorem d_V_mustStay_1 : decode b_V_mustStay 1 = .ok (.getfield 16, 3) := by decide +kernel
theorem d_V_mustStay_4 : decode b_V_mustStay 4 = .ok (.iload_n 1, 1) := by decide +kernel
theorem d_V_mustStay_5 : decode b_V_mustStay 5 = .ok (.iload_n 2, 1) := by decide +kernel
theorem d_V_mustStay_6 : decode b_V_mustStay 6 = .ok (.invokevirtual 123, 3) := by decide +kernel
theorem d_V_mustStay_9 : decode b_V_mustStay 9 = .ok (.istore_n 3, 1) := by decide +kernel
theorem d_V_mustStay_10 : decode b_V_mustStay 10 = .ok (.aload_n 0, 1) := by decide +kernel
theorem d_V_mustStay_11 : decode b_V_mustStay 11 = .ok (.getfield 16, 3) := by decide +kernel
theorem d_V_mustStay_14 : decode b_V_mustStay 14 = .ok (.iconst 0, 1) := by decide +kernel
theorem d_V_mustStay_15 : decode b_V_mustStay 15 = .ok (.invokevirtual 104, 3) := by decide +kernel
theorem d_V_mustStay_18 : decode b_V_mustStay 18 = .ok (.istore 4, 2) := by decide +kernel
theorem d_V_mustStay_20 : decode b_V_mustStay 20 = .ok (.aload_n 0, 1) := by decide +kernel
theorem d_V_mustStay_21 : decode b_V_mustStay 21 = .ok (.getfield 16, 3) := by decide +kernel
theorem d_V_mustStay_24 : decode b_V_mustStay 24 = .ok (.iload_n 1, 1) := by decide +kernel
theorem d_V_mustStay_25 : decode b_V_mustStay 25 = .ok (.iload_n 2, 1) := by decide +kernel
theorem d_V_mustStay_26 : decode b_V_mustStay 26 = .ok (.iconst 0, 1) := by decide +kernel
theorem d_V_mustStay_27 : decode b_V_mustStay 27 = .ok (.invokevirtual 120, 3) := by decide +kernel
theorem d_V_mustStay_30 : decode b_V_mustStay 30 = .ok (.aload_n 0, 1) := by decide +kernel
theorem d_V_mustStay_31 : decode b_V_mustStay 31 = .ok (.getfield 16, 3) := by decide +kernel
theorem d_V_mustStay_34 : decode b_V_mustStay 34 = .ok (.iconst 0, 1) := by decide +kernel
theorem d_V_mustStay_35 : decode b_V_mustStay 35 = .ok (.invokevirtual 104, 3) := by decide +kernel
theorem d_V_mustStay_38 : decode b_V_mustStay 38 = .ok (.istore 5, 2) := by decide +kernel
theorem d_V_mustStay_40 : decode b_V_mustStay 40 = .ok (.aload_n 0, 1) := by decide +kernel
theorem d_V_mustStay_41 : decode b_V_mustStay 41 = .ok (.getfield 16, 3) := by decide +kernel
theorem d_V_mustStay_44 : decode b_V_mustStay 44 = .ok (.iload_n 1, 1) := by decide +kernel
theorem d_V_mustStay_45 : decode b_V_mustStay 45 = .ok (.iload_n 2, 1) := by decide +kernel
theorem d_V_mustStay_46 : decode b_V_mustStay 46 = .ok (.iload_n 3, 1) := by decide +kernel
theorem d_V_mustStay_47 : decode b_V_mustStay 47 = .ok (.invokevirtual 120, 3) := by decide +kernel
theorem d_V_mustStay_50 : decode b_V_mustStay 50 = .ok (.iload 4, 2) := by decide +kernel
theorem d_V_mustStay_52 : decode b_V_mustStay 52 = .ok (.iload 5, 2) := by decide +kernel
theorem d_V_mustStay_54 : decode b_V_mustStay 54 = .ok (.iconst (-1), 1) := by decide +kernel
theorem d_V_mustStay_55 : decode b_V_mustStay 55 = .ok (.ixor, 1) := by decide +kernel
theorem d_V_mustStay_56 : decode b_V_mustStay 56 = .ok (.iand, 1) := by decide +kernel
theorem d_V_mustStay_57 : decode b_V_mustStay 57 = .ok (.aload_n 0, 1) := by decide +kernel
theorem d_V_mustStay_58 : decode b_V_mustStay 58 = .ok (.getfield 10, 3) := by decide +kernel
theorem d_V_mustStay_61 : decode b_V_mustStay 61 = .ok (.iconst 0, 1) := by decide +kernel
theorem d_V_mustStay_62 : decode b_V_mustStay 62 = .ok (.invokevirtual 104, 3) := by decide +kernel
theorem d_V_mustStay_65 : decode b_V_mustStay 65 = .ok (.iand, 1) := by decide +kernel
theorem d_V_mustStay_66 : decode b_V_mustStay 66 = .ok (.ifCond .eq 7, 3) := by decide +kernel
theorem d_V_mustStay_69 : decode b_V_mustStay 69 = .ok (.iconst 1, 1) := by decide +kernel
theorem d_V_mustStay_70 : decode b_V_mustStay 70 = .ok (.goto 4, 3) := by decide +kernel
theorem d_V_mustStay_73 : decode b_V_mustStay 73 = .ok (.iconst 0, 1) := by decide +kernel
theorem d_V_mustStay_74 : decode b_V_mustStay 74 = .ok (.ireturn, 1) := by decide +kernel
abbrev b_V_writeDirectory : ByteArray := prog_1_method_44_code
abbrev y_V_writeDirectory : MethodName := ⟨"OrderedVolume", "writeDirectory", "(I)I"⟩
abbrev o_V_writeDirectory : Cond := .code y_V_writeDirectory b_V_writeDirectory 6 (some .int)
abbrev rm_V_writeDirectory : Room := { frames := 3, cells := 0, slots := 0, locals := 75 }
theorem d_V_writeDirectory_0 : decode b_V_writeDirectory 0 = .ok (.aload_n 0, 1) := by decide +kernel
theorem d_V_writeDirectory_1 : decode b_V_writeDirectory 1 = .ok (.getfield 16, 3) := by decide +kernel
theorem d_V_writeDirectory_4 : decode b_V_writeDirectory 4 = .ok (.iload_n 1, 1) := by decide +kernel
theorem d_V_writeDirectory_5 : decode b_V_writeDirectory 5 = .ok (.invokevirtual 216, 3) := by decide +kernel
theorem d_V_writeDirectory_8 : decode b_V_writeDirectory 8 = .ok (.ifCond .eq 20, 3) := by decide +kernel
theorem d_V_writeDirectory_11 : decode b_V_writeDirectory 11 = .ok (.aload_n 0, 1) := by decide +kernel
theorem d_V_writeDirectory_12 : decode b_V_writeDirectory 12 = .ok (.getfield 16, 3) := by decide +kernel
theorem d_V_writeDirectory_15 : decode b_V_writeDirectory 15 = .ok (.iload_n 1, 1) := by decide +kernel
theorem d_V_writeDirectory_16 : decode b_V_writeDirectory 16 = .ok (.invokevirtual 197, 3) := by decide +kernel
theorem d_V_writeDirectory_19 : decode b_V_writeDirectory 19 = .ok (.aload_n 0, 1) := by decide +kernel
theorem d_V_writeDirectory_20 : decode b_V_writeDirectory 20 = .ok (.getfield 16, 3) := by decide +kernel
theorem d_V_writeDirectory_23 : decode b_V_writeDirectory 23 = .ok (.iload_n 1, 1) := by decide +kernel
theorem d_V_writeDirectory_24 : decode b_V_writeDirectory 24 = .ok (.iconst 0, 1) := by decide +kernel
theorem d_V_writeDirectory_25 : decode b_V_writeDirectory 25 = .ok (.invokevirtual 139, 3) := by decide +kernel
theorem d_V_writeDirectory_28 : decode b_V_writeDirectory 28 = .ok (.iconst 0, 1) := by decide +kernel
theorem d_V_writeDirectory_29 : decode b_V_writeDirectory 29 = .ok (.istore_n 2, 1) := by decide +kernel
theorem d_V_writeDirectory_30 : decode b_V_writeDirectory 30 = .ok (.iconst 0, 1) := by decide +kernel
theorem d_V_writeDirectory_31 : decode b_V_writeDirectory 31 = .ok (.istore_n 3, 1) := by decide +kernel
theorem d_V_writeDirectory_32 : decode b_V_writeDirectory 32 = .ok (.iload_n 3, 1) := by decide +kernel
theorem d_V_writeDirectory_33 : decode b_V_writeDirectory 33 = .ok (.bipush 8, 2) := by decide +kernel
theorem d_V_writeDirectory_35 : decode b_V_writeDirectory 35 = .ok (.if_icmp .ge 98, 3) := by decide +kernel
theorem d_V_writeDirectory_38 : decode b_V_writeDirectory 38 = .ok (.aload_n 0, 1) := by decide +kernel
theorem d_V_writeDirectory_39 : decode b_V_writeDirectory 39 = .ok (.getfield 10, 3) := by decide +kernel
theorem d_V_writeDirectory_42 : decode b_V_writeDirectory 42 = .ok (.iload_n 1, 1) := by decide +kernel
theorem d_V_writeDirectory_43 : decode b_V_writeDirectory 43 = .ok (.iload_n 3, 1) := by decide +kernel
theorem d_V_writeDirectory_44 : decode b_V_writeDirectory 44 = .ok (.invokevirtual 123, 3) := by decide +kernel
theorem d_V_writeDirectory_47 : decode b_V_writeDirectory 47 = .ok (.istore 4, 2) := by decide +kernel
theorem d_V_writeDirectory_49 : decode b_V_writeDirectory 49 = .ok (.aload_n 0, 1) := by decide +kernel
theorem d_V_writeDirectory_50 : decode b_V_writeDirectory 50 = .ok (.getfield 16, 3) := by decide +kernel
theorem d_V_writeDirectory_53 : decode b_V_writeDirectory 53 = .ok (.iload_n 1, 1) := by decide +kernel
theorem d_V_writeDirectory_54 : decode b_V_writeDirectory 54 = .ok (.iload_n 3, 1) := by decide +kernel
theorem d_V_writeDirectory_55 : decode b_V_writeDirectory 55 = .ok (.invokevirtual 123, 3) := by decide +kernel
theorem d_V_writeDirectory_58 : decode b_V_writeDirectory 58 = .ok (.istore 5, 2) := by decide +kernel
theorem d_V_writeDirectory_60 : decode b_V_writeDirectory 60 = .ok (.iload 4, 2) := by decide +kernel
theorem d_V_writeDirectory_62 : decode b_V_writeDirectory 62 = .ok (.iload 5, 2) := by decide +kernel
theorem d_V_writeDirectory_64 : decode b_V_writeDirectory 64 = .ok (.if_icmp .ne 6, 3) := by decide +kernel
theorem d_V_writeDirectory_67 : decode b_V_writeDirectory 67 = .ok (.goto 60, 3) := by decide +kernel
theorem d_V_writeDirectory_70 : decode b_V_writeDirectory 70 = .ok (.iload 4, 2) := by decide +kernel
theorem d_V_writeDirectory_72 : decode b_V_writeDirectory 72 = .ok (.ifCond .eq 15, 3) := by decide +kernel
theorem d_V_writeDirectory_75 : decode b_V_writeDirectory 75 = .ok (.aload_n 0, 1) := by decide +kernel
theorem d_V_writeDirectory_76 : decode b_V_writeDirectory 76 = .ok (.iload_n 1, 1) := by decide +kernel
theorem d_V_writeDirectory_77 : decode b_V_writeDirectory 77 = .ok (.iload_n 3, 1) := by decide +kernel
theorem d_V_writeDirectory_78 : decode b_V_writeDirectory 78 = .ok (.invokevirtual 235, 3) := by decide +kernel
theorem d_V_writeDirectory_81 : decode b_V_writeDirectory 81 = .ok (.ifCond .eq 21, 3) := by decide +kernel
theorem d_V_writeDirectory_84 : decode b_V_writeDirectory 84 = .ok (.goto 12, 3) := by decide +kernel
theorem d_V_writeDirectory_87 : decode b_V_writeDirectory 87 = .ok (.aload_n 0, 1) := by decide +kernel
theorem d_V_writeDirectory_88 : decode b_V_writeDirectory 88 = .ok (.iload_n 1, 1) := by decide +kernel
theorem d_V_writeDirectory_89 : decode b_V_writeDirectory 89 = .ok (.iload_n 3, 1) := by decide +kernel
theorem d_V_writeDirectory_90 : decode b_V_writeDirectory 90 = .ok (.invokevirtual 238, 3) := by decide +kernel
theorem d_V_writeDirectory_93 : decode b_V_writeDirectory 93 = .ok (.ifCond .eq 9, 3) := by decide +kernel
theorem d_V_writeDirectory_96 : decode b_V_writeDirectory 96 = .ok (.iinc 2 1, 3) := by decide +kernel
theorem d_V_writeDirectory_99 : decode b_V_writeDirectory 99 = .ok (.goto 28, 3) := by decide +kernel
theorem d_V_writeDirectory_102 : decode b_V_writeDirectory 102 = .ok (.aload_n 0, 1) := by decide +kernel
theorem d_V_writeDirectory_103 : decode b_V_writeDirectory 103 = .ok (.getfield 16, 3) := by decide +kernel
theorem d_V_writeDirectory_106 : decode b_V_writeDirectory 106 = .ok (.iload_n 1, 1) := by decide +kernel
theorem d_V_writeDirectory_107 : decode b_V_writeDirectory 107 = .ok (.iload_n 3, 1) := by decide +kernel
theorem d_V_writeDirectory_108 : decode b_V_writeDirectory 108 = .ok (.iload 4, 2) := by decide +kernel
theorem d_V_writeDirectory_110 : decode b_V_writeDirectory 110 = .ok (.invokevirtual 120, 3) := by decide +kernel
theorem d_V_writeDirectory_113 : decode b_V_writeDirectory 113 = .ok (.iload 4, 2) := by decide +kernel
theorem d_V_writeDirectory_115 : decode b_V_writeDirectory 115 = .ok (.ifCond .ne 12, 3) := by decide +kernel
theorem d_V_writeDirectory_118 : decode b_V_writeDirectory 118 = .ok (.aload_n 0, 1) := by decide +kernel
theorem d_V_writeDirectory_119 : decode b_V_writeDirectory 119 = .ok (.iload 5, 2) := by decide +kernel
theorem d_V_writeDirectory_121 : decode b_V_writeDirectory 121 = .ok (.bipush 32, 2) := by decide +kernel
theorem d_V_writeDirectory_123 : decode b_V_writeDirectory 123 = .ok (.irem, 1) := by decide +kernel
theorem d_V_writeDirectory_124 : decode b_V_writeDirectory 124 = .ok (.invokevirtual 200, 3) := by decide +kernel
theorem d_V_writeDirectory_127 : decode b_V_writeDirectory 127 = .ok (.iinc 3 1, 3) := by decide +kernel
theorem d_V_writeDirectory_130 : decode b_V_writeDirectory 130 = .ok (.goto (-98), 3) := by decide +kernel
theorem d_V_writeDirectory_133 : decode b_V_writeDirectory 133 = .ok (.iload_n 2, 1) := by decide +kernel
theorem d_V_writeDirectory_134 : decode b_V_writeDirectory 134 = .ok (.ireturn, 1) := by decide +kernel
abbrev b_V_writeBack : ByteArray := prog_1_method_40_code
abbrev y_V_writeBack : MethodName := ⟨"OrderedVolume", "writeBack", "(I)I"⟩
abbrev o_V_writeBack : Cond := .code y_V_writeBack b_V_writeBack 6 (some .int)
abbrev rm_V_writeBack : Room := { frames := 4, cells := 0, slots := 0, locals := 100 }
theorem d_V_writeBack_0 : decode b_V_writeBack 0 = .ok (.iconst 0, 1) := by decide +kernel
theorem d_V_writeBack_1 : decode b_V_writeBack 1 = .ok (.istore_n 2, 1) := by decide +kernel
theorem d_V_writeBack_2 : decode b_V_writeBack 2 = .ok (.iload_n 1, 1) := by decide +kernel
theorem d_V_writeBack_3 : decode b_V_writeBack 3 = .ok (.bipush 12, 2) := by decide +kernel
theorem d_V_writeBack_5 : decode b_V_writeBack 5 = .ok (.irem, 1) := by decide +kernel
theorem d_V_writeBack_6 : decode b_V_writeBack 6 = .ok (.istore_n 3, 1) := by decide +kernel
theorem d_V_writeBack_7 : decode b_V_writeBack 7 = .ok (.iload_n 1, 1) := by decide +kernel
theorem d_V_writeBack_8 : decode b_V_writeBack 8 = .ok (.invokestatic 155, 3) := by decide +kernel
theorem d_V_writeBack_11 : decode b_V_writeBack 11 = .ok (.ifCond .eq 14, 3) := by decide +kernel
theorem d_V_writeBack_14 : decode b_V_writeBack 14 = .ok (.aload_n 0, 1) := by decide +kernel
theorem d_V_writeBack_15 : decode b_V_writeBack 15 = .ok (.getfield 10, 3) := by decide +kernel
theorem d_V_writeBack_18 : decode b_V_writeBack 18 = .ok (.iload_n 1, 1) := by decide +kernel
theorem d_V_writeBack_19 : decode b_V_writeBack 19 = .ok (.invokevirtual 206, 3) := by decide +kernel
theorem d_V_writeBack_22 : decode b_V_writeBack 22 = .ok (.goto 4, 3) := by decide +kernel
theorem d_V_writeBack_25 : decode b_V_writeBack 25 = .ok (.iconst (-1), 1) := by decide +kernel
theorem d_V_writeBack_26 : decode b_V_writeBack 26 = .ok (.istore 4, 2) := by decide +kernel
theorem d_V_writeBack_28 : decode b_V_writeBack 28 = .ok (.iload 4, 2) := by decide +kernel
theorem d_V_writeBack_30 : decode b_V_writeBack 30 = .ok (.iconst (-1), 1) := by decide +kernel
theorem d_V_writeBack_31 : decode b_V_writeBack 31 = .ok (.if_icmp .ne 7, 3) := by decide +kernel
theorem d_V_writeBack_34 : decode b_V_writeBack 34 = .ok (.iconst 0, 1) := by decide +kernel
theorem d_V_writeBack_35 : decode b_V_writeBack 35 = .ok (.goto 12, 3) := by decide +kernel
theorem d_V_writeBack_38 : decode b_V_writeBack 38 = .ok (.aload_n 0, 1) := by decide +kernel
theorem d_V_writeBack_39 : decode b_V_writeBack 39 = .ok (.getfield 10, 3) := by decide +kernel
theorem d_V_writeBack_42 : decode b_V_writeBack 42 = .ok (.iload 4, 2) := by decide +kernel
theorem d_V_writeBack_44 : decode b_V_writeBack 44 = .ok (.invokevirtual 101, 3) := by decide +kernel
theorem d_V_writeBack_47 : decode b_V_writeBack 47 = .ok (.istore 5, 2) := by decide +kernel
theorem d_V_writeBack_49 : decode b_V_writeBack 49 = .ok (.iload_n 3, 1) := by decide +kernel
theorem d_V_writeBack_50 : decode b_V_writeBack 50 = .ok (.ifCond .eq 9, 3) := by decide +kernel
theorem d_V_writeBack_53 : decode b_V_writeBack 53 = .ok (.iload 5, 2) := by decide +kernel
theorem d_V_writeBack_55 : decode b_V_writeBack 55 = .ok (.iconst 1, 1) := by decide +kernel
theorem d_V_writeBack_56 : decode b_V_writeBack 56 = .ok (.if_icmp .ne 27, 3) := by decide +kernel
theorem d_V_writeBack_59 : decode b_V_writeBack 59 = .ok (.aload_n 0, 1) := by decide +kernel
theorem d_V_writeBack_60 : decode b_V_writeBack 60 = .ok (.getfield 16, 3) := by decide +kernel
theorem d_V_writeBack_63 : decode b_V_writeBack 63 = .ok (.aload_n 0, 1) := by decide +kernel
theorem d_V_writeBack_64 : decode b_V_writeBack 64 = .ok (.getfield 10, 3) := by decide +kernel
theorem d_V_writeBack_67 : decode b_V_writeBack 67 = .ok (.iload_n 1, 1) := by decide +kernel
theorem d_V_writeBack_68 : decode b_V_writeBack 68 = .ok (.invokevirtual 135, 3) := by decide +kernel
theorem d_V_writeBack_71 : decode b_V_writeBack 71 = .ok (.aload_n 0, 1) := by decide +kernel
theorem d_V_writeBack_72 : decode b_V_writeBack 72 = .ok (.getfield 16, 3) := by decide +kernel
theorem d_V_writeBack_75 : decode b_V_writeBack 75 = .ok (.iload_n 1, 1) := by decide +kernel
theorem d_V_writeBack_76 : decode b_V_writeBack 76 = .ok (.iconst 0, 1) := by decide +kernel
theorem d_V_writeBack_77 : decode b_V_writeBack 77 = .ok (.invokevirtual 139, 3) := by decide +kernel
theorem d_V_writeBack_80 : decode b_V_writeBack 80 = .ok (.goto 32, 3) := by decide +kernel
theorem d_V_writeBack_83 : decode b_V_writeBack 83 = .ok (.iload_n 3, 1) := by decide +kernel
theorem d_V_writeBack_84 : decode b_V_writeBack 84 = .ok (.iconst 1, 1) := by decide +kernel
theorem d_V_writeBack_85 : decode b_V_writeBack 85 = .ok (.if_icmp .ne 15, 3) := by decide +kernel
theorem d_V_writeBack_88 : decode b_V_writeBack 88 = .ok (.aload_n 0, 1) := by decide +kernel
theorem d_V_writeBack_89 : decode b_V_writeBack 89 = .ok (.iload_n 1, 1) := by decide +kernel
theorem d_V_writeBack_90 : decode b_V_writeBack 90 = .ok (.bipush 12, 2) := by decide +kernel
theorem d_V_writeBack_92 : decode b_V_writeBack 92 = .ok (.idiv, 1) := by decide +kernel
theorem d_V_writeBack_93 : decode b_V_writeBack 93 = .ok (.invokevirtual 223, 3) := by decide +kernel
theorem d_V_writeBack_96 : decode b_V_writeBack 96 = .ok (.istore_n 2, 1) := by decide +kernel
theorem d_V_writeBack_97 : decode b_V_writeBack 97 = .ok (.goto 15, 3) := by decide +kernel
theorem d_V_writeBack_100 : decode b_V_writeBack 100 = .ok (.iload 5, 2) := by decide +kernel
theorem d_V_writeBack_102 : decode b_V_writeBack 102 = .ok (.iconst 2, 1) := by decide +kernel
theorem d_V_writeBack_103 : decode b_V_writeBack 103 = .ok (.if_icmp .ne 9, 3) := by decide +kernel
theorem d_V_writeBack_106 : decode b_V_writeBack 106 = .ok (.aload_n 0, 1) := by decide +kernel
theorem d_V_writeBack_107 : decode b_V_writeBack 107 = .ok (.iload_n 1, 1) := by decide +kernel
theorem d_V_writeBack_108 : decode b_V_writeBack 108 = .ok (.invokevirtual 226, 3) := by decide +kernel
theorem d_V_writeBack_111 : decode b_V_writeBack 111 = .ok (.istore_n 2, 1) := by decide +kernel
theorem d_V_writeBack_112 : decode b_V_writeBack 112 = .ok (.aload_n 0, 1) := by decide +kernel
theorem d_V_writeBack_113 : decode b_V_writeBack 113 = .ok (.invokevirtual 129, 3) := by decide +kernel
theorem d_V_writeBack_116 : decode b_V_writeBack 116 = .ok (.iload_n 2, 1) := by decide +kernel
theorem d_V_writeBack_117 : decode b_V_writeBack 117 = .ok (.ireturn, 1) := by decide +kernel
abbrev b_V_makeAlike : ByteArray := prog_1_method_38_code
abbrev y_V_makeAlike : MethodName := ⟨"OrderedVolume", "makeAlike", "()I"⟩
abbrev o_V_makeAlike : Cond := .code y_V_makeAlike b_V_makeAlike 3 (some .int)
abbrev rm_V_makeAlike : Room := { frames := 5, cells := 0, slots := 0, locals := 125 }
theorem d_V_makeAlike_0 : decode b_V_makeAlike 0 = .ok (.iconst 0, 1) := by decide +kernel
theorem d_V_makeAlike_1 : decode b_V_makeAlike 1 = .ok (.istore_n 1, 1) := by decide +kernel
theorem d_V_makeAlike_2 : decode b_V_makeAlike 2 = .ok (.iload_n 1, 1) := by decide +kernel
theorem d_V_makeAlike_3 : decode b_V_makeAlike 3 = .ok (.ldc 211, 2) := by decide +kernel
theorem d_V_makeAlike_5 : decode b_V_makeAlike 5 = .ok (.if_icmp .ge 36, 3) := by decide +kernel
theorem d_V_makeAlike_8 : decode b_V_makeAlike 8 = .ok (.aload_n 0, 1) := by decide +kernel
theorem d_V_makeAlike_9 : decode b_V_makeAlike 9 = .ok (.invokevirtual 212, 3) := by decide +kernel
theorem d_V_makeAlike_12 : decode b_V_makeAlike 12 = .ok (.ifCond .ne 29, 3) := by decide +kernel
theorem d_V_makeAlike_15 : decode b_V_makeAlike 15 = .ok (.iconst 0, 1) := by decide +kernel
theorem d_V_makeAlike_16 : decode b_V_makeAlike 16 = .ok (.istore_n 2, 1) := by decide +kernel
theorem d_V_makeAlike_17 : decode b_V_makeAlike 17 = .ok (.iload_n 2, 1) := by decide +kernel
theorem d_V_makeAlike_18 : decode b_V_makeAlike 18 = .ok (.bipush 36, 2) := by decide +kernel
theorem d_V_makeAlike_20 : decode b_V_makeAlike 20 = .ok (.if_icmp .ge 15, 3) := by decide +kernel
theorem d_V_makeAlike_23 : decode b_V_makeAlike 23 = .ok (.aload_n 0, 1) := by decide +kernel
theorem d_V_makeAlike_24 : decode b_V_makeAlike 24 = .ok (.iload_n 2, 1) := by decide +kernel
theorem d_V_makeAlike_25 : decode b_V_makeAlike 25 = .ok (.invokevirtual 132, 3) := by decide +kernel
theorem d_V_makeAlike_28 : decode b_V_makeAlike 28 = .ok (.pop, 1) := by decide +kernel
theorem d_V_makeAlike_29 : decode b_V_makeAlike 29 = .ok (.iinc 2 1, 3) := by decide +kernel
theorem d_V_makeAlike_32 : decode b_V_makeAlike 32 = .ok (.goto (-15), 3) := by decide +kernel
theorem d_V_makeAlike_35 : decode b_V_makeAlike 35 = .ok (.iinc 1 1, 3) := by decide +kernel
theorem d_V_makeAlike_38 : decode b_V_makeAlike 38 = .ok (.goto (-36), 3) := by decide +kernel
theorem d_V_makeAlike_41 : decode b_V_makeAlike 41 = .ok (.aload_n 0, 1) := by decide +kernel
theorem d_V_makeAlike_42 : decode b_V_makeAlike 42 = .ok (.iconst 0, 1) := by decide +kernel
theorem d_V_makeAlike_43 : decode b_V_makeAlike 43 = .ok (.putfield 29, 3) := by decide +kernel
theorem d_V_makeAlike_46 : decode b_V_makeAlike 46 = .ok (.iload_n 1, 1) := by decide +kernel
theorem d_V_makeAlike_47 : decode b_V_makeAlike 47 = .ok (.ireturn, 1) := by decide +kernel
abbrev b_V_takeBlock : ByteArray := prog_1_method_30_code
abbrev y_V_takeBlock : MethodName := ⟨"OrderedVolume", "takeBlock", "(I)V"⟩
abbrev o_V_takeBlock : Cond := .code y_V_takeBlock b_V_takeBlock 2 none
abbrev rm_V_takeBlock : Room := { frames := 1, cells := 0, slots := 0, locals := 22 }
theorem d_V_takeBlock_0 : decode b_V_takeBlock 0 = .ok (.aload_n 0, 1) := by decide +kernel
theorem d_V_takeBlock_1 : decode b_V_takeBlock 1 = .ok (.getfield 10, 3) := by decide +kernel
theorem d_V_takeBlock_4 : decode b_V_takeBlock 4 = .ok (.iload_n 1, 1) := by decide +kernel
theorem d_V_takeBlock_5 : decode b_V_takeBlock 5 = .ok (.iconst 1, 1) := by decide +kernel
theorem d_V_takeBlock_6 : decode b_V_takeBlock 6 = .ok (.invokevirtual 164, 3) := by decide +kernel
theorem d_V_takeBlock_9 : decode b_V_takeBlock 9 = .ok (.aload_n 0, 1) := by decide +kernel
theorem d_V_takeBlock_10 : decode b_V_takeBlock 10 = .ok (.getfield 10, 3) := by decide +kernel
theorem d_V_takeBlock_13 : decode b_V_takeBlock 13 = .ok (.iload_n 1, 1) := by decide +kernel
theorem d_V_takeBlock_14 : decode b_V_takeBlock 14 = .ok (.invokevirtual 197, 3) := by decide +kernel
theorem d_V_takeBlock_17 : decode b_V_takeBlock 17 = .ok (.aload_n 0, 1) := by decide +kernel
theorem d_V_takeBlock_18 : decode b_V_takeBlock 18 = .ok (.getfield 16, 3) := by decide +kernel
theorem d_V_takeBlock_21 : decode b_V_takeBlock 21 = .ok (.iload_n 1, 1) := by decide +kernel
theorem d_V_takeBlock_22 : decode b_V_takeBlock 22 = .ok (.iconst 1, 1) := by decide +kernel
theorem d_V_takeBlock_23 : decode b_V_takeBlock 23 = .ok (.invokevirtual 139, 3) := by decide +kernel
theorem d_V_takeBlock_26 : decode b_V_takeBlock 26 = .ok (.aload_n 0, 1) := by decide +kernel
theorem d_V_takeBlock_27 : decode b_V_takeBlock 27 = .ok (.getfield 19, 3) := by decide +kernel
theorem d_V_takeBlock_30 : decode b_V_takeBlock 30 = .ok (.iload_n 1, 1) := by decide +kernel
theorem d_V_takeBlock_31 : decode b_V_takeBlock 31 = .ok (.iconst 0, 1) := by decide +kernel
theorem d_V_takeBlock_32 : decode b_V_takeBlock 32 = .ok (.iastore, 1) := by decide +kernel
theorem d_V_takeBlock_33 : decode b_V_takeBlock 33 = .ok (.return_, 1) := by decide +kernel
abbrev b_V_makeEntry : ByteArray := prog_1_method_31_code
abbrev y_V_makeEntry : MethodName := ⟨"OrderedVolume", "makeEntry", "(III)V"⟩
abbrev o_V_makeEntry : Cond := .code y_V_makeEntry b_V_makeEntry 6 none
abbrev rm_V_makeEntry : Room := { frames := 1, cells := 0, slots := 0, locals := 23 }
theorem d_V_makeEntry_0 : decode b_V_makeEntry 0 = .ok (.aload_n 0, 1) := by decide +kernel
theorem d_V_makeEntry_1 : decode b_V_makeEntry 1 = .ok (.getfield 10, 3) := by decide +kernel
theorem d_V_makeEntry_4 : decode b_V_makeEntry 4 = .ok (.iload_n 1, 1) := by decide +kernel
theorem d_V_makeEntry_5 : decode b_V_makeEntry 5 = .ok (.iconst 0, 1) := by decide +kernel
theorem d_V_makeEntry_6 : decode b_V_makeEntry 6 = .ok (.invokevirtual 114, 3) := by decide +kernel
theorem d_V_makeEntry_9 : decode b_V_makeEntry 9 = .ok (.istore 4, 2) := by decide +kernel
theorem d_V_makeEntry_11 : decode b_V_makeEntry 11 = .ok (.iload_n 3, 1) := by decide +kernel
theorem d_V_makeEntry_12 : decode b_V_makeEntry 12 = .ok (.bipush 32, 2) := by decide +kernel
theorem d_V_makeEntry_14 : decode b_V_makeEntry 14 = .ok (.irem, 1) := by decide +kernel
theorem d_V_makeEntry_15 : decode b_V_makeEntry 15 = .ok (.istore 5, 2) := by decide +kernel
theorem d_V_makeEntry_17 : decode b_V_makeEntry 17 = .ok (.aload_n 0, 1) := by decide +kernel
theorem d_V_makeEntry_18 : decode b_V_makeEntry 18 = .ok (.getfield 10, 3) := by decide +kernel
theorem d_V_makeEntry_21 : decode b_V_makeEntry 21 = .ok (.iload 4, 2) := by decide +kernel
theorem d_V_makeEntry_23 : decode b_V_makeEntry 23 = .ok (.iload_n 2, 1) := by decide +kernel
theorem d_V_makeEntry_24 : decode b_V_makeEntry 24 = .ok (.iload_n 3, 1) := by decide +kernel
theorem d_V_makeEntry_25 : decode b_V_makeEntry 25 = .ok (.invokevirtual 120, 3) := by decide +kernel
theorem d_V_makeEntry_28 : decode b_V_makeEntry 28 = .ok (.aload_n 0, 1) := by decide +kernel
theorem d_V_makeEntry_29 : decode b_V_makeEntry 29 = .ok (.getfield 19, 3) := by decide +kernel
theorem d_V_makeEntry_32 : decode b_V_makeEntry 32 = .ok (.iload 4, 2) := by decide +kernel
theorem d_V_makeEntry_34 : decode b_V_makeEntry 34 = .ok (.dup2, 1) := by decide +kernel
theorem d_V_makeEntry_35 : decode b_V_makeEntry 35 = .ok (.iaload, 1) := by decide +kernel
theorem d_V_makeEntry_36 : decode b_V_makeEntry 36 = .ok (.iconst 1, 1) := by decide +kernel
theorem d_V_makeEntry_37 : decode b_V_makeEntry 37 = .ok (.iload_n 2, 1) := by decide +kernel
theorem d_V_makeEntry_38 : decode b_V_makeEntry 38 = .ok (.ishl, 1) := by decide +kernel
theorem d_V_makeEntry_39 : decode b_V_makeEntry 39 = .ok (.ior, 1) := by decide +kernel
theorem d_V_makeEntry_40 : decode b_V_makeEntry 40 = .ok (.iastore, 1) := by decide +kernel
theorem d_V_makeEntry_41 : decode b_V_makeEntry 41 = .ok (.aload_n 0, 1) := by decide +kernel
theorem d_V_makeEntry_42 : decode b_V_makeEntry 42 = .ok (.getfield 10, 3) := by decide +kernel
theorem d_V_makeEntry_45 : decode b_V_makeEntry 45 = .ok (.iload 5, 2) := by decide +kernel
theorem d_V_makeEntry_47 : decode b_V_makeEntry 47 = .ok (.aload_n 0, 1) := by decide +kernel
theorem d_V_makeEntry_48 : decode b_V_makeEntry 48 = .ok (.getfield 10, 3) := by decide +kernel
theorem d_V_makeEntry_51 : decode b_V_makeEntry 51 = .ok (.iload 5, 2) := by decide +kernel
theorem d_V_makeEntry_53 : decode b_V_makeEntry 53 = .ok (.invokevirtual 86, 3) := by decide +kernel
theorem d_V_makeEntry_56 : decode b_V_makeEntry 56 = .ok (.iconst 1, 1) := by decide +kernel
theorem d_V_makeEntry_57 : decode b_V_makeEntry 57 = .ok (.iadd, 1) := by decide +kernel
theorem d_V_makeEntry_58 : decode b_V_makeEntry 58 = .ok (.invokevirtual 152, 3) := by decide +kernel
theorem d_V_makeEntry_61 : decode b_V_makeEntry 61 = .ok (.return_, 1) := by decide +kernel
abbrev b_V_create : ByteArray := prog_1_method_2_code
abbrev y_V_create : MethodName := ⟨"OrderedVolume", "create", "(IIZ)I"⟩
abbrev o_V_create : Cond := .code y_V_create b_V_create 7 (some .int)
abbrev rm_V_create : Room := { frames := 6, cells := 0, slots := 0, locals := 147 }
theorem d_V_create_0 : decode b_V_create 0 = .ok (.aload_n 0, 1) := by decide +kernel
theorem d_V_create_1 : decode b_V_create 1 = .ok (.iload_n 1, 1) := by decide +kernel
theorem d_V_create_2 : decode b_V_create 2 = .ok (.invokevirtual 33, 3) := by decide +kernel
theorem d_V_create_5 : decode b_V_create 5 = .ok (.ifCond .eq 10, 3) := by decide +kernel
theorem d_V_create_8 : decode b_V_create 8 = .ok (.iload_n 2, 1) := by decide +kernel
theorem d_V_create_9 : decode b_V_create 9 = .ok (.invokestatic 37, 3) := by decide +kernel
theorem d_V_create_12 : decode b_V_create 12 = .ok (.ifCond .ne 5, 3) := by decide +kernel
theorem d_V_create_15 : decode b_V_create 15 = .ok (.iconst (-1), 1) := by decide +kernel
theorem d_V_create_16 : decode b_V_create 16 = .ok (.ireturn, 1) := by decide +kernel
theorem d_V_create_17 : decode b_V_create 17 = .ok (.aload_n 0, 1) := by decide +kernel
theorem d_V_create_18 : decode b_V_create 18 = .ok (.iload_n 1, 1) := by decide +kernel
theorem d_V_create_19 : decode b_V_create 19 = .ok (.iload_n 2, 1) := by decide +kernel
theorem d_V_create_20 : decode b_V_create 20 = .ok (.invokevirtual 40, 3) := by decide +kernel
theorem d_V_create_23 : decode b_V_create 23 = .ok (.istore 4, 2) := by decide +kernel
theorem d_V_create_25 : decode b_V_create 25 = .ok (.iload 4, 2) := by decide +kernel
theorem d_V_create_27 : decode b_V_create 27 = .ok (.ifCond .eq 6, 3) := by decide +kernel
theorem d_V_create_30 : decode b_V_create 30 = .ok (.iload 4, 2) := by decide +kernel
theorem d_V_create_32 : decode b_V_create 32 = .ok (.ireturn, 1) := by decide +kernel
theorem d_V_create_33 : decode b_V_create 33 = .ok (.aload_n 0, 1) := by decide +kernel
theorem d_V_create_34 : decode b_V_create 34 = .ok (.iload_n 1, 1) := by decide +kernel
theorem d_V_create_35 : decode b_V_create 35 = .ok (.iload_n 3, 1) := by decide +kernel
theorem d_V_create_36 : decode b_V_create 36 = .ok (.invokevirtual 44, 3) := by decide +kernel
theorem d_V_create_39 : decode b_V_create 39 = .ok (.ifCond .eq 20, 3) := by decide +kernel
theorem d_V_create_42 : decode b_V_create 42 = .ok (.aload_n 0, 1) := by decide +kernel
theorem d_V_create_43 : decode b_V_create 43 = .ok (.invokevirtual 48, 3) := by decide +kernel
theorem d_V_create_46 : decode b_V_create 46 = .ok (.pop, 1) := by decide +kernel
theorem d_V_create_47 : decode b_V_create 47 = .ok (.aload_n 0, 1) := by decide +kernel
theorem d_V_create_48 : decode b_V_create 48 = .ok (.iload_n 1, 1) := by decide +kernel
theorem d_V_create_49 : decode b_V_create 49 = .ok (.iload_n 3, 1) := by decide +kernel
theorem d_V_create_50 : decode b_V_create 50 = .ok (.invokevirtual 44, 3) := by decide +kernel
theorem d_V_create_53 : decode b_V_create 53 = .ok (.ifCond .eq 6, 3) := by decide +kernel
theorem d_V_create_56 : decode b_V_create 56 = .ok (.bipush (-3), 2) := by decide +kernel
theorem d_V_create_58 : decode b_V_create 58 = .ok (.ireturn, 1) := by decide +kernel
theorem d_V_create_59 : decode b_V_create 59 = .ok (.aload_n 0, 1) := by decide +kernel
theorem d_V_create_60 : decode b_V_create 60 = .ok (.getfield 10, 3) := by decide +kernel
theorem d_V_create_63 : decode b_V_create 63 = .ok (.iload_n 3, 1) := by decide +kernel
theorem d_V_create_64 : decode b_V_create 64 = .ok (.ifCond .eq 13, 3) := by decide +kernel
theorem d_V_create_67 : decode b_V_create 67 = .ok (.aload_n 0, 1) := by decide +kernel
theorem d_V_create_68 : decode b_V_create 68 = .ok (.getfield 10, 3) := by decide +kernel
theorem d_V_create_71 : decode b_V_create 71 = .ok (.invokevirtual 52, 3) := by decide +kernel
theorem d_V_create_74 : decode b_V_create 74 = .ok (.goto 7, 3) := by decide +kernel
theorem d_V_create_77 : decode b_V_create 77 = .ok (.iload_n 1, 1) := by decide +kernel
theorem d_V_create_78 : decode b_V_create 78 = .ok (.bipush 6, 2) := by decide +kernel
theorem d_V_create_80 : decode b_V_create 80 = .ok (.idiv, 1) := by decide +kernel
theorem d_V_create_81 : decode b_V_create 81 = .ok (.invokevirtual 55, 3) := by decide +kernel
theorem d_V_create_84 : decode b_V_create 84 = .ok (.istore 5, 2) := by decide +kernel
theorem d_V_create_86 : decode b_V_create 86 = .ok (.aload_n 0, 1) := by decide +kernel
theorem d_V_create_87 : decode b_V_create 87 = .ok (.getfield 10, 3) := by decide +kernel
theorem d_V_create_90 : decode b_V_create 90 = .ok (.iload 5, 2) := by decide +kernel
theorem d_V_create_92 : decode b_V_create 92 = .ok (.iconst 1, 1) := by decide +kernel
theorem d_V_create_93 : decode b_V_create 93 = .ok (.invokevirtual 59, 3) := by decide +kernel
theorem d_V_create_96 : decode b_V_create 96 = .ok (.aload_n 0, 1) := by decide +kernel
theorem d_V_create_97 : decode b_V_create 97 = .ok (.getfield 10, 3) := by decide +kernel
theorem d_V_create_100 : decode b_V_create 100 = .ok (.iload 5, 2) := by decide +kernel
theorem d_V_create_102 : decode b_V_create 102 = .ok (.iload_n 3, 1) := by decide +kernel
theorem d_V_create_103 : decode b_V_create 103 = .ok (.ifCond .eq 7, 3) := by decide +kernel
theorem d_V_create_106 : decode b_V_create 106 = .ok (.iconst 2, 1) := by decide +kernel
theorem d_V_create_107 : decode b_V_create 107 = .ok (.goto 4, 3) := by decide +kernel
theorem d_V_create_110 : decode b_V_create 110 = .ok (.iconst 1, 1) := by decide +kernel
theorem d_V_create_111 : decode b_V_create 111 = .ok (.invokevirtual 63, 3) := by decide +kernel
theorem d_V_create_114 : decode b_V_create 114 = .ok (.iload_n 3, 1) := by decide +kernel
theorem d_V_create_115 : decode b_V_create 115 = .ok (.ifCond .eq 35, 3) := by decide +kernel
theorem d_V_create_118 : decode b_V_create 118 = .ok (.aload_n 0, 1) := by decide +kernel
theorem d_V_create_119 : decode b_V_create 119 = .ok (.getfield 10, 3) := by decide +kernel
theorem d_V_create_122 : decode b_V_create 122 = .ok (.iload 5, 2) := by decide +kernel
theorem d_V_create_124 : decode b_V_create 124 = .ok (.bipush 6, 2) := by decide +kernel
theorem d_V_create_126 : decode b_V_create 126 = .ok (.idiv, 1) := by decide +kernel
theorem d_V_create_127 : decode b_V_create 127 = .ok (.invokevirtual 66, 3) := by decide +kernel
theorem d_V_create_130 : decode b_V_create 130 = .ok (.istore 6, 2) := by decide +kernel
theorem d_V_create_132 : decode b_V_create 132 = .ok (.aload_n 0, 1) := by decide +kernel
theorem d_V_create_133 : decode b_V_create 133 = .ok (.iload 6, 2) := by decide +kernel
theorem d_V_create_135 : decode b_V_create 135 = .ok (.invokevirtual 69, 3) := by decide +kernel
theorem d_V_create_138 : decode b_V_create 138 = .ok (.aload_n 0, 1) := by decide +kernel
theorem d_V_create_139 : decode b_V_create 139 = .ok (.getfield 10, 3) := by decide +kernel
theorem d_V_create_142 : decode b_V_create 142 = .ok (.iload 5, 2) := by decide +kernel
theorem d_V_create_144 : decode b_V_create 144 = .ok (.iconst 0, 1) := by decide +kernel
theorem d_V_create_145 : decode b_V_create 145 = .ok (.iload 6, 2) := by decide +kernel
theorem d_V_create_147 : decode b_V_create 147 = .ok (.invokevirtual 73, 3) := by decide +kernel
theorem d_V_create_150 : decode b_V_create 150 = .ok (.aload_n 0, 1) := by decide +kernel
theorem d_V_create_151 : decode b_V_create 151 = .ok (.iload_n 1, 1) := by decide +kernel
theorem d_V_create_152 : decode b_V_create 152 = .ok (.aload_n 0, 1) := by decide +kernel
theorem d_V_create_153 : decode b_V_create 153 = .ok (.iload_n 1, 1) := by decide +kernel
theorem d_V_create_154 : decode b_V_create 154 = .ok (.invokevirtual 77, 3) := by decide +kernel
theorem d_V_create_157 : decode b_V_create 157 = .ok (.bipush 32, 2) := by decide +kernel
theorem d_V_create_159 : decode b_V_create 159 = .ok (.iload_n 2, 1) := by decide +kernel
theorem d_V_create_160 : decode b_V_create 160 = .ok (.imul, 1) := by decide +kernel
theorem d_V_create_161 : decode b_V_create 161 = .ok (.iload 5, 2) := by decide +kernel
theorem d_V_create_163 : decode b_V_create 163 = .ok (.iadd, 1) := by decide +kernel
theorem d_V_create_164 : decode b_V_create 164 = .ok (.invokevirtual 80, 3) := by decide +kernel
theorem d_V_create_167 : decode b_V_create 167 = .ok (.iload 5, 2) := by decide +kernel
theorem d_V_create_169 : decode b_V_create 169 = .ok (.ireturn, 1) := by decide +kernel
abbrev b_V_isTreeFile : ByteArray := prog_1_method_24_code
abbrev y_V_isTreeFile : MethodName := ⟨"OrderedVolume", "isTreeFile", "(I)Z"⟩
abbrev o_V_isTreeFile : Cond := .code y_V_isTreeFile b_V_isTreeFile 2 (some .boolean)
abbrev rm_V_isTreeFile : Room := { frames := 3, cells := 0, slots := 0, locals := 71 }
theorem d_V_isTreeFile_0 : decode b_V_isTreeFile 0 = .ok (.aload_n 0, 1) := by decide +kernel
theorem d_V_isTreeFile_1 : decode b_V_isTreeFile 1 = .ok (.iload_n 1, 1) := by decide +kernel
theorem d_V_isTreeFile_2 : decode b_V_isTreeFile 2 = .ok (.invokevirtual 194, 3) := by decide +kernel
theorem d_V_isTreeFile_5 : decode b_V_isTreeFile 5 = .ok (.ifCond .eq 19, 3) := by decide +kernel
theorem d_V_isTreeFile_8 : decode b_V_isTreeFile 8 = .ok (.aload_n 0, 1) := by decide +kernel
theorem d_V_isTreeFile_9 : decode b_V_isTreeFile 9 = .ok (.getfield 10, 3) := by decide +kernel
theorem d_V_isTreeFile_12 : decode b_V_isTreeFile 12 = .ok (.iload_n 1, 1) := by decide +kernel
theorem d_V_isTreeFile_13 : decode b_V_isTreeFile 13 = .ok (.invokevirtual 101, 3) := by decide +kernel
theorem d_V_isTreeFile_16 : decode b_V_isTreeFile 16 = .ok (.iconst 1, 1) := by decide +kernel
theorem d_V_isTreeFile_17 : decode b_V_isTreeFile 17 = .ok (.if_icmp .ne 7, 3) := by decide +kernel
theorem d_V_isTreeFile_20 : decode b_V_isTreeFile 20 = .ok (.iconst 1, 1) := by decide +kernel
theorem d_V_isTreeFile_21 : decode b_V_isTreeFile 21 = .ok (.goto 4, 3) := by decide +kernel
theorem d_V_isTreeFile_24 : decode b_V_isTreeFile 24 = .ok (.iconst 0, 1) := by decide +kernel
theorem d_V_isTreeFile_25 : decode b_V_isTreeFile 25 = .ok (.ireturn, 1) := by decide +kernel
abbrev b_V_cut : ByteArray := prog_1_method_8_code
abbrev y_V_cut : MethodName := ⟨"OrderedVolume", "cut", "(II)I"⟩
abbrev o_V_cut : Cond := .code y_V_cut b_V_cut 4 (some .int)
abbrev rm_V_cut : Room := { frames := 4, cells := 0, slots := 0, locals := 92 }
theorem d_V_cut_0 : decode b_V_cut 0 = .ok (.aload_n 0, 1) := by decide +kernel
theorem d_V_cut_1 : decode b_V_cut 1 = .ok (.iload_n 1, 1) := by decide +kernel
theorem d_V_cut_2 : decode b_V_cut 2 = .ok (.invokevirtual 83, 3) := by decide +kernel
theorem d_V_cut_5 : decode b_V_cut 5 = .ok (.ifCond .eq 12, 3) := by decide +kernel
theorem d_V_cut_8 : decode b_V_cut 8 = .ok (.iload_n 2, 1) := by decide +kernel
theorem d_V_cut_9 : decode b_V_cut 9 = .ok (.ifCond .lt 8, 3) := by decide +kernel
theorem d_V_cut_12 : decode b_V_cut 12 = .ok (.iload_n 2, 1) := by decide +kernel
theorem d_V_cut_13 : decode b_V_cut 13 = .ok (.iconst 3, 1) := by decide +kernel
theorem d_V_cut_14 : decode b_V_cut 14 = .ok (.if_icmp .le 5, 3) := by decide +kernel
theorem d_V_cut_17 : decode b_V_cut 17 = .ok (.iconst (-1), 1) := by decide +kernel
theorem d_V_cut_18 : decode b_V_cut 18 = .ok (.ireturn, 1) := by decide +kernel
theorem d_V_cut_19 : decode b_V_cut 19 = .ok (.aload_n 0, 1) := by decide +kernel
theorem d_V_cut_20 : decode b_V_cut 20 = .ok (.iload_n 1, 1) := by decide +kernel
theorem d_V_cut_21 : decode b_V_cut 21 = .ok (.iload_n 2, 1) := by decide +kernel
theorem d_V_cut_22 : decode b_V_cut 22 = .ok (.invokevirtual 126, 3) := by decide +kernel
theorem d_V_cut_25 : decode b_V_cut 25 = .ok (.istore_n 3, 1) := by decide +kernel
theorem d_V_cut_26 : decode b_V_cut 26 = .ok (.aload_n 0, 1) := by decide +kernel
theorem d_V_cut_27 : decode b_V_cut 27 = .ok (.invokevirtual 129, 3) := by decide +kernel
theorem d_V_cut_30 : decode b_V_cut 30 = .ok (.iload_n 3, 1) := by decide +kernel
theorem d_V_cut_31 : decode b_V_cut 31 = .ok (.ireturn, 1) := by decide +kernel
abbrev b_V_defects : ByteArray := prog_1_method_14_code
abbrev y_V_defects : MethodName := ⟨"OrderedVolume", "defects", "(I)I"⟩
abbrev o_V_defects : Cond := .code y_V_defects b_V_defects 3 (some .int)
abbrev rm_V_defects : Room := { frames := 3, cells := 0, slots := 0, locals := 73 }
theorem d_V_defects_0 : decode b_V_defects 0 = .ok (.aload_n 0, 1) := by decide +kernel
theorem d_V_defects_1 : decode b_V_defects 1 = .ok (.getfield 16, 3) := by decide +kernel
theorem d_V_defects_4 : decode b_V_defects 4 = .ok (.iconst 0, 1) := by decide +kernel
theorem d_V_defects_5 : decode b_V_defects 5 = .ok (.invokevirtual 104, 3) := by decide +kernel
theorem d_V_defects_8 : decode b_V_defects 8 = .ok (.istore_n 2, 1) := by decide +kernel
theorem d_V_defects_9 : decode b_V_defects 9 = .ok (.iload_n 1, 1) := by decide +kernel
theorem d_V_defects_10 : decode b_V_defects 10 = .ok (.tableswitch 103 0 5 #[38, 56, 65, 74, 83, 93], 38) := by decide +kernel
theorem d_V_defects_48 : decode b_V_defects 48 = .ok (.aload_n 0, 1) := by decide +kernel
theorem d_V_defects_49 : decode b_V_defects 49 = .ok (.getfield 16, 3) := by decide +kernel
theorem d_V_defects_52 : decode b_V_defects 52 = .ok (.iload_n 2, 1) := by decide +kernel
theorem d_V_defects_53 : decode b_V_defects 53 = .ok (.invokevirtual 167, 3) := by decide +kernel
theorem d_V_defects_56 : decode b_V_defects 56 = .ok (.aload_n 0, 1) := by decide +kernel
theorem d_V_defects_57 : decode b_V_defects 57 = .ok (.getfield 16, 3) := by decide +kernel
theorem d_V_defects_60 : decode b_V_defects 60 = .ok (.iload_n 2, 1) := by decide +kernel
theorem d_V_defects_61 : decode b_V_defects 61 = .ok (.invokevirtual 170, 3) := by decide +kernel
theorem d_V_defects_64 : decode b_V_defects 64 = .ok (.iadd, 1) := by decide +kernel
theorem d_V_defects_65 : decode b_V_defects 65 = .ok (.ireturn, 1) := by decide +kernel
theorem d_V_defects_66 : decode b_V_defects 66 = .ok (.aload_n 0, 1) := by decide +kernel
theorem d_V_defects_67 : decode b_V_defects 67 = .ok (.getfield 16, 3) := by decide +kernel
theorem d_V_defects_70 : decode b_V_defects 70 = .ok (.iload_n 2, 1) := by decide +kernel
theorem d_V_defects_71 : decode b_V_defects 71 = .ok (.invokevirtual 173, 3) := by decide +kernel
theorem d_V_defects_74 : decode b_V_defects 74 = .ok (.ireturn, 1) := by decide +kernel
theorem d_V_defects_75 : decode b_V_defects 75 = .ok (.aload_n 0, 1) := by decide +kernel
theorem d_V_defects_76 : decode b_V_defects 76 = .ok (.getfield 16, 3) := by decide +kernel
theorem d_V_defects_79 : decode b_V_defects 79 = .ok (.iload_n 2, 1) := by decide +kernel
theorem d_V_defects_80 : decode b_V_defects 80 = .ok (.invokevirtual 176, 3) := by decide +kernel
theorem d_V_defects_83 : decode b_V_defects 83 = .ok (.ireturn, 1) := by decide +kernel
theorem d_V_defects_84 : decode b_V_defects 84 = .ok (.aload_n 0, 1) := by decide +kernel
theorem d_V_defects_85 : decode b_V_defects 85 = .ok (.getfield 16, 3) := by decide +kernel
theorem d_V_defects_88 : decode b_V_defects 88 = .ok (.iload_n 2, 1) := by decide +kernel
theorem d_V_defects_89 : decode b_V_defects 89 = .ok (.invokevirtual 179, 3) := by decide +kernel
theorem d_V_defects_92 : decode b_V_defects 92 = .ok (.ireturn, 1) := by decide +kernel
theorem d_V_defects_93 : decode b_V_defects 93 = .ok (.aload_n 0, 1) := by decide +kernel
theorem d_V_defects_94 : decode b_V_defects 94 = .ok (.getfield 16, 3) := by decide +kernel
theorem d_V_defects_97 : decode b_V_defects 97 = .ok (.iload_n 2, 1) := by decide +kernel
theorem d_V_defects_98 : decode b_V_defects 98 = .ok (.iconst 1, 1) := by decide +kernel
theorem d_V_defects_99 : decode b_V_defects 99 = .ok (.invokevirtual 182, 3) := by decide +kernel
theorem d_V_defects_102 : decode b_V_defects 102 = .ok (.ireturn, 1) := by decide +kernel
theorem d_V_defects_103 : decode b_V_defects 103 = .ok (.aload_n 0, 1) := by decide +kernel
theorem d_V_defects_104 : decode b_V_defects 104 = .ok (.getfield 16, 3) := by decide +kernel
theorem d_V_defects_107 : decode b_V_defects 107 = .ok (.iload_n 2, 1) := by decide +kernel
theorem d_V_defects_108 : decode b_V_defects 108 = .ok (.iconst (-1), 1) := by decide +kernel
theorem d_V_defects_109 : decode b_V_defects 109 = .ok (.invokevirtual 182, 3) := by decide +kernel
theorem d_V_defects_112 : decode b_V_defects 112 = .ok (.ireturn, 1) := by decide +kernel
theorem d_V_defects_113 : decode b_V_defects 113 = .ok (.iconst (-1), 1) := by decide +kernel
theorem d_V_defects_114 : decode b_V_defects 114 = .ok (.ireturn, 1) := by decide +kernel
abbrev b_V_flush : ByteArray := prog_1_method_10_code
abbrev y_V_flush : MethodName := ⟨"OrderedVolume", "flush", "(I)I"⟩
abbrev o_V_flush : Cond := .code y_V_flush b_V_flush 2 (some .int)
abbrev rm_V_flush : Room := { frames := 5, cells := 0, slots := 0, locals := 125 }
theorem d_V_flush_0 : decode b_V_flush 0 = .ok (.iload_n 1, 1) := by decide +kernel
theorem d_V_flush_1 : decode b_V_flush 1 = .ok (.ifCond .lt 9, 3) := by decide +kernel
theorem d_V_flush_4 : decode b_V_flush 4 = .ok (.iload_n 1, 1) := by decide +kernel
theorem d_V_flush_5 : decode b_V_flush 5 = .ok (.bipush 36, 2) := by decide +kernel
theorem d_V_flush_7 : decode b_V_flush 7 = .ok (.if_icmp .lt 5, 3) := by decide +kernel
theorem d_V_flush_10 : decode b_V_flush 10 = .ok (.iconst (-1), 1) := by decide +kernel
theorem d_V_flush_11 : decode b_V_flush 11 = .ok (.ireturn, 1) := by decide +kernel
theorem d_V_flush_12 : decode b_V_flush 12 = .ok (.aload_n 0, 1) := by decide +kernel
theorem d_V_flush_13 : decode b_V_flush 13 = .ok (.iload_n 1, 1) := by decide +kernel
theorem d_V_flush_14 : decode b_V_flush 14 = .ok (.invokevirtual 132, 3) := by decide +kernel
theorem d_V_flush_17 : decode b_V_flush 17 = .ok (.ireturn, 1) := by decide +kernel
abbrev b_V_image : ByteArray := prog_1_method_15_code
abbrev y_V_image : MethodName := ⟨"OrderedVolume", "image", "(II)I"⟩
abbrev o_V_image : Cond := .code y_V_image b_V_image 3 (some .int)
abbrev rm_V_image : Room := { frames := 2, cells := 0, slots := 0, locals := 42 }
theorem d_V_image_0 : decode b_V_image 0 = .ok (.iload_n 1, 1) := by decide +kernel
theorem d_V_image_1 : decode b_V_image 1 = .ok (.iload_n 2, 1) := by decide +kernel
theorem d_V_image_2 : decode b_V_image 2 = .ok (.invokestatic 185, 3) := by decide +kernel
theorem d_V_image_5 : decode b_V_image 5 = .ok (.ifCond .eq 15, 3) := by decide +kernel
theorem d_V_image_8 : decode b_V_image 8 = .ok (.aload_n 0, 1) := by decide +kernel
theorem d_V_image_9 : decode b_V_image 9 = .ok (.getfield 16, 3) := by decide +kernel
theorem d_V_image_12 : decode b_V_image 12 = .ok (.iload_n 1, 1) := by decide +kernel
theorem d_V_image_13 : decode b_V_image 13 = .ok (.iload_n 2, 1) := by decide +kernel
theorem d_V_image_14 : decode b_V_image 14 = .ok (.invokevirtual 188, 3) := by decide +kernel
theorem d_V_image_17 : decode b_V_image 17 = .ok (.goto 4, 3) := by decide +kernel
theorem d_V_image_20 : decode b_V_image 20 = .ok (.iconst 0, 1) := by decide +kernel
theorem d_V_image_21 : decode b_V_image 21 = .ok (.ireturn, 1) := by decide +kernel
