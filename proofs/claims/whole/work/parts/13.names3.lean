abbrev b_R_below : ByteArray := prog_4_method_9_code
abbrev y_R_below : MethodName := ⟨"OrderedVolumeModel", "below", "(Z[Z)V"⟩
abbrev o_R_below : Cond := .code y_R_below b_R_below 5 none
abbrev rm_R_below : Room := { frames := 2, cells := 0, slots := 0, locals := 49 }
theorem d_R_below_0 : decode b_R_below 0 = .ok (.iconst 0, 1) := by decide +kernel
theorem d_R_below_1 : decode b_R_below 1 = .ok (.istore_n 3, 1) := by decide +kernel
theorem d_R_below_2 : decode b_R_below 2 = .ok (.iload_n 3, 1) := by decide +kernel
theorem d_R_below_3 : decode b_R_below 3 = .ok (.bipush 18, 2) := by decide +kernel
theorem d_R_below_5 : decode b_R_below 5 = .ok (.if_icmp .ge 40, 3) := by decide +kernel
theorem d_R_below_8 : decode b_R_below 8 = .ok (.iconst 0, 1) := by decide +kernel
theorem d_R_below_9 : decode b_R_below 9 = .ok (.istore 4, 2) := by decide +kernel
theorem d_R_below_11 : decode b_R_below 11 = .ok (.iload 4, 2) := by decide +kernel
theorem d_R_below_13 : decode b_R_below 13 = .ok (.bipush 18, 2) := by decide +kernel
theorem d_R_below_15 : decode b_R_below 15 = .ok (.if_icmp .ge 24, 3) := by decide +kernel
theorem d_R_below_18 : decode b_R_below 18 = .ok (.aload_n 2, 1) := by decide +kernel
theorem d_R_below_19 : decode b_R_below 19 = .ok (.iload 4, 2) := by decide +kernel
theorem d_R_below_21 : decode b_R_below 21 = .ok (.baload, 1) := by decide +kernel
theorem d_R_below_22 : decode b_R_below 22 = .ok (.ifCond .eq 11, 3) := by decide +kernel
theorem d_R_below_25 : decode b_R_below 25 = .ok (.aload_n 0, 1) := by decide +kernel
theorem d_R_below_26 : decode b_R_below 26 = .ok (.iload_n 1, 1) := by decide +kernel
theorem d_R_below_27 : decode b_R_below 27 = .ok (.iload 4, 2) := by decide +kernel
theorem d_R_below_29 : decode b_R_below 29 = .ok (.aload_n 2, 1) := by decide +kernel
theorem d_R_below_30 : decode b_R_below 30 = .ok (.invokevirtual 62, 3) := by decide +kernel
theorem d_R_below_33 : decode b_R_below 33 = .ok (.iinc 4 1, 3) := by decide +kernel
theorem d_R_below_36 : decode b_R_below 36 = .ok (.goto (-25), 3) := by decide +kernel
theorem d_R_below_39 : decode b_R_below 39 = .ok (.iinc 3 1, 3) := by decide +kernel
theorem d_R_below_42 : decode b_R_below 42 = .ok (.goto (-40), 3) := by decide +kernel
theorem d_R_below_45 : decode b_R_below 45 = .ok (.return_, 1) := by decide +kernel
abbrev b_R_tree : ByteArray := prog_4_method_8_code
abbrev y_R_tree : MethodName := ⟨"OrderedVolumeModel", "tree", "(Z[Z)V"⟩
abbrev o_R_tree : Cond := .code y_R_tree b_R_tree 4 none
abbrev rm_R_tree : Room := { frames := 3, cells := 0, slots := 0, locals := 73 }
theorem d_R_tree_0 : decode b_R_tree 0 = .ok (.iconst 0, 1) := by decide +kernel
theorem d_R_tree_1 : decode b_R_tree 1 = .ok (.istore_n 3, 1) := by decide +kernel
theorem d_R_tree_2 : decode b_R_tree 2 = .ok (.iload_n 3, 1) := by decide +kernel
theorem d_R_tree_3 : decode b_R_tree 3 = .ok (.bipush 18, 2) := by decide +kernel
theorem d_R_tree_5 : decode b_R_tree 5 = .ok (.if_icmp .ge 21, 3) := by decide +kernel
theorem d_R_tree_8 : decode b_R_tree 8 = .ok (.aload_n 2, 1) := by decide +kernel
theorem d_R_tree_9 : decode b_R_tree 9 = .ok (.iload_n 3, 1) := by decide +kernel
theorem d_R_tree_10 : decode b_R_tree 10 = .ok (.iload_n 3, 1) := by decide +kernel
theorem d_R_tree_11 : decode b_R_tree 11 = .ok (.ifCond .ne 7, 3) := by decide +kernel
theorem d_R_tree_14 : decode b_R_tree 14 = .ok (.iconst 1, 1) := by decide +kernel
theorem d_R_tree_15 : decode b_R_tree 15 = .ok (.goto 4, 3) := by decide +kernel
theorem d_R_tree_18 : decode b_R_tree 18 = .ok (.iconst 0, 1) := by decide +kernel
theorem d_R_tree_19 : decode b_R_tree 19 = .ok (.bastore, 1) := by decide +kernel
theorem d_R_tree_20 : decode b_R_tree 20 = .ok (.iinc 3 1, 3) := by decide +kernel
theorem d_R_tree_23 : decode b_R_tree 23 = .ok (.goto (-21), 3) := by decide +kernel
theorem d_R_tree_26 : decode b_R_tree 26 = .ok (.aload_n 0, 1) := by decide +kernel
theorem d_R_tree_27 : decode b_R_tree 27 = .ok (.iload_n 1, 1) := by decide +kernel
theorem d_R_tree_28 : decode b_R_tree 28 = .ok (.aload_n 2, 1) := by decide +kernel
theorem d_R_tree_29 : decode b_R_tree 29 = .ok (.invokevirtual 58, 3) := by decide +kernel
theorem d_R_tree_32 : decode b_R_tree 32 = .ok (.return_, 1) := by decide +kernel
abbrev b_R_holds : ByteArray := prog_4_method_11_code
abbrev y_R_holds : MethodName := ⟨"OrderedVolumeModel", "holds", "(II)Z"⟩
abbrev o_R_holds : Cond := .code y_R_holds b_R_holds 3 (some .boolean)
abbrev rm_R_holds : Room := { frames := 4, cells := 0, slots := 0, locals := 96 }
theorem d_R_holds_0 : decode b_R_holds 0 = .ok (.iload_n 1, 1) := by decide +kernel
theorem d_R_holds_1 : decode b_R_holds 1 = .ok (.ifCond .lt 9, 3) := by decide +kernel
theorem d_R_holds_4 : decode b_R_holds 4 = .ok (.iload_n 1, 1) := by decide +kernel
theorem d_R_holds_5 : decode b_R_holds 5 = .ok (.bipush 17, 2) := by decide +kernel
theorem d_R_holds_7 : decode b_R_holds 7 = .ok (.if_icmp .le 5, 3) := by decide +kernel
theorem d_R_holds_10 : decode b_R_holds 10 = .ok (.iconst 0, 1) := by decide +kernel
theorem d_R_holds_11 : decode b_R_holds 11 = .ok (.ireturn, 1) := by decide +kernel
theorem d_R_holds_12 : decode b_R_holds 12 = .ok (.aload_n 0, 1) := by decide +kernel
theorem d_R_holds_13 : decode b_R_holds 13 = .ok (.iconst 0, 1) := by decide +kernel
theorem d_R_holds_14 : decode b_R_holds 14 = .ok (.aload_n 0, 1) := by decide +kernel
theorem d_R_holds_15 : decode b_R_holds 15 = .ok (.getfield 35, 3) := by decide +kernel
theorem d_R_holds_18 : decode b_R_holds 18 = .ok (.invokevirtual 69, 3) := by decide +kernel
theorem d_R_holds_21 : decode b_R_holds 21 = .ok (.aload_n 0, 1) := by decide +kernel
theorem d_R_holds_22 : decode b_R_holds 22 = .ok (.getfield 35, 3) := by decide +kernel
theorem d_R_holds_25 : decode b_R_holds 25 = .ok (.iload_n 1, 1) := by decide +kernel
theorem d_R_holds_26 : decode b_R_holds 26 = .ok (.baload, 1) := by decide +kernel
theorem d_R_holds_27 : decode b_R_holds 27 = .ok (.ifCond .eq 21, 3) := by decide +kernel
theorem d_R_holds_30 : decode b_R_holds 30 = .ok (.aload_n 0, 1) := by decide +kernel
theorem d_R_holds_31 : decode b_R_holds 31 = .ok (.getfield 7, 3) := by decide +kernel
theorem d_R_holds_34 : decode b_R_holds 34 = .ok (.iload_n 1, 1) := by decide +kernel
theorem d_R_holds_35 : decode b_R_holds 35 = .ok (.iconst 0, 1) := by decide +kernel
theorem d_R_holds_36 : decode b_R_holds 36 = .ok (.invokestatic 44, 3) := by decide +kernel
theorem d_R_holds_39 : decode b_R_holds 39 = .ok (.iaload, 1) := by decide +kernel
theorem d_R_holds_40 : decode b_R_holds 40 = .ok (.iload_n 2, 1) := by decide +kernel
theorem d_R_holds_41 : decode b_R_holds 41 = .ok (.if_icmp .ne 7, 3) := by decide +kernel
theorem d_R_holds_44 : decode b_R_holds 44 = .ok (.iconst 1, 1) := by decide +kernel
theorem d_R_holds_45 : decode b_R_holds 45 = .ok (.goto 4, 3) := by decide +kernel
theorem d_R_holds_48 : decode b_R_holds 48 = .ok (.iconst 0, 1) := by decide +kernel
theorem d_R_holds_49 : decode b_R_holds 49 = .ok (.ireturn, 1) := by decide +kernel
abbrev b_R_find : ByteArray := prog_4_method_12_code
abbrev y_R_find : MethodName := ⟨"OrderedVolumeModel", "find", "(II)I"⟩
abbrev o_R_find : Cond := .code y_R_find b_R_find 5 (some .int)
abbrev rm_R_find : Room := { frames := 1, cells := 0, slots := 0, locals := 21 }
theorem d_R_find_0 : decode b_R_find 0 = .ok (.aload_n 0, 1) := by decide +kernel
theorem d_R_find_1 : decode b_R_find 1 = .ok (.getfield 7, 3) := by decide +kernel
theorem d_R_find_4 : decode b_R_find 4 = .ok (.iload_n 1, 1) := by decide +kernel
theorem d_R_find_5 : decode b_R_find 5 = .ok (.iconst 2, 1) := by decide +kernel
theorem d_R_find_6 : decode b_R_find 6 = .ok (.invokestatic 44, 3) := by decide +kernel
theorem d_R_find_9 : decode b_R_find 9 = .ok (.iaload, 1) := by decide +kernel
theorem d_R_find_10 : decode b_R_find 10 = .ok (.istore_n 3, 1) := by decide +kernel
theorem d_R_find_11 : decode b_R_find 11 = .ok (.iconst 0, 1) := by decide +kernel
theorem d_R_find_12 : decode b_R_find 12 = .ok (.istore 4, 2) := by decide +kernel
theorem d_R_find_14 : decode b_R_find 14 = .ok (.iload 4, 2) := by decide +kernel
theorem d_R_find_16 : decode b_R_find 16 = .ok (.bipush 8, 2) := by decide +kernel
theorem d_R_find_18 : decode b_R_find 18 = .ok (.if_icmp .ge 31, 3) := by decide +kernel
theorem d_R_find_21 : decode b_R_find 21 = .ok (.aload_n 0, 1) := by decide +kernel
theorem d_R_find_22 : decode b_R_find 22 = .ok (.getfield 7, 3) := by decide +kernel
theorem d_R_find_25 : decode b_R_find 25 = .ok (.bipush 30, 2) := by decide +kernel
theorem d_R_find_27 : decode b_R_find 27 = .ok (.iload_n 3, 1) := by decide +kernel
theorem d_R_find_28 : decode b_R_find 28 = .ok (.imul, 1) := by decide +kernel
theorem d_R_find_29 : decode b_R_find 29 = .ok (.iload 4, 2) := by decide +kernel
theorem d_R_find_31 : decode b_R_find 31 = .ok (.iadd, 1) := by decide +kernel
theorem d_R_find_32 : decode b_R_find 32 = .ok (.iaload, 1) := by decide +kernel
theorem d_R_find_33 : decode b_R_find 33 = .ok (.bipush 32, 2) := by decide +kernel
theorem d_R_find_35 : decode b_R_find 35 = .ok (.idiv, 1) := by decide +kernel
theorem d_R_find_36 : decode b_R_find 36 = .ok (.iload_n 2, 1) := by decide +kernel
theorem d_R_find_37 : decode b_R_find 37 = .ok (.if_icmp .ne 6, 3) := by decide +kernel
theorem d_R_find_40 : decode b_R_find 40 = .ok (.iload 4, 2) := by decide +kernel
theorem d_R_find_42 : decode b_R_find 42 = .ok (.ireturn, 1) := by decide +kernel
theorem d_R_find_43 : decode b_R_find 43 = .ok (.iinc 4 1, 3) := by decide +kernel
theorem d_R_find_46 : decode b_R_find 46 = .ok (.goto (-32), 3) := by decide +kernel
theorem d_R_find_49 : decode b_R_find 49 = .ok (.iconst (-1), 1) := by decide +kernel
theorem d_R_find_50 : decode b_R_find 50 = .ok (.ireturn, 1) := by decide +kernel
abbrev b_R_entries : ByteArray := prog_4_method_13_code
abbrev y_R_entries : MethodName := ⟨"OrderedVolumeModel", "entries", "(I)I"⟩
abbrev o_R_entries : Cond := .code y_R_entries b_R_entries 5 (some .int)
abbrev rm_R_entries : Room := { frames := 1, cells := 0, slots := 0, locals := 21 }
theorem d_R_entries_0 : decode b_R_entries 0 = .ok (.aload_n 0, 1) := by decide +kernel
theorem d_R_entries_1 : decode b_R_entries 1 = .ok (.getfield 7, 3) := by decide +kernel
theorem d_R_entries_4 : decode b_R_entries 4 = .ok (.iload_n 1, 1) := by decide +kernel
theorem d_R_entries_5 : decode b_R_entries 5 = .ok (.iconst 2, 1) := by decide +kernel
theorem d_R_entries_6 : decode b_R_entries 6 = .ok (.invokestatic 44, 3) := by decide +kernel
theorem d_R_entries_9 : decode b_R_entries 9 = .ok (.iaload, 1) := by decide +kernel
theorem d_R_entries_10 : decode b_R_entries 10 = .ok (.istore_n 2, 1) := by decide +kernel
theorem d_R_entries_11 : decode b_R_entries 11 = .ok (.iconst 0, 1) := by decide +kernel
theorem d_R_entries_12 : decode b_R_entries 12 = .ok (.istore_n 3, 1) := by decide +kernel
theorem d_R_entries_13 : decode b_R_entries 13 = .ok (.iconst 0, 1) := by decide +kernel
theorem d_R_entries_14 : decode b_R_entries 14 = .ok (.istore 4, 2) := by decide +kernel
theorem d_R_entries_16 : decode b_R_entries 16 = .ok (.iload 4, 2) := by decide +kernel
theorem d_R_entries_18 : decode b_R_entries 18 = .ok (.bipush 8, 2) := by decide +kernel
theorem d_R_entries_20 : decode b_R_entries 20 = .ok (.if_icmp .ge 32, 3) := by decide +kernel
theorem d_R_entries_23 : decode b_R_entries 23 = .ok (.aload_n 0, 1) := by decide +kernel
theorem d_R_entries_24 : decode b_R_entries 24 = .ok (.getfield 7, 3) := by decide +kernel
theorem d_R_entries_27 : decode b_R_entries 27 = .ok (.bipush 30, 2) := by decide +kernel
theorem d_R_entries_29 : decode b_R_entries 29 = .ok (.iload_n 2, 1) := by decide +kernel
theorem d_R_entries_30 : decode b_R_entries 30 = .ok (.imul, 1) := by decide +kernel
theorem d_R_entries_31 : decode b_R_entries 31 = .ok (.iload 4, 2) := by decide +kernel
theorem d_R_entries_33 : decode b_R_entries 33 = .ok (.iadd, 1) := by decide +kernel
theorem d_R_entries_34 : decode b_R_entries 34 = .ok (.iaload, 1) := by decide +kernel
theorem d_R_entries_35 : decode b_R_entries 35 = .ok (.ifCond .eq 9, 3) := by decide +kernel
theorem d_R_entries_38 : decode b_R_entries 38 = .ok (.iload_n 3, 1) := by decide +kernel
theorem d_R_entries_39 : decode b_R_entries 39 = .ok (.iconst 1, 1) := by decide +kernel
theorem d_R_entries_40 : decode b_R_entries 40 = .ok (.iadd, 1) := by decide +kernel
theorem d_R_entries_41 : decode b_R_entries 41 = .ok (.goto 4, 3) := by decide +kernel
theorem d_R_entries_44 : decode b_R_entries 44 = .ok (.iload_n 3, 1) := by decide +kernel
theorem d_R_entries_45 : decode b_R_entries 45 = .ok (.istore_n 3, 1) := by decide +kernel
theorem d_R_entries_46 : decode b_R_entries 46 = .ok (.iinc 4 1, 3) := by decide +kernel
theorem d_R_entries_49 : decode b_R_entries 49 = .ok (.goto (-33), 3) := by decide +kernel
theorem d_R_entries_52 : decode b_R_entries 52 = .ok (.iload_n 3, 1) := by decide +kernel
theorem d_R_entries_53 : decode b_R_entries 53 = .ok (.ireturn, 1) := by decide +kernel
abbrev b_R_markOfInode : ByteArray := prog_4_method_4_code
abbrev y_R_markOfInode : MethodName := ⟨"OrderedVolumeModel", "markOfInode", "(I)I"⟩
abbrev o_R_markOfInode : Cond := .code y_R_markOfInode b_R_markOfInode 1 (some .int)
abbrev rm_R_markOfInode : Room := { frames := 0, cells := 0, slots := 0, locals := 0 }
theorem d_R_markOfInode_0 : decode b_R_markOfInode 0 = .ok (.iload_n 0, 1) := by decide +kernel
theorem d_R_markOfInode_1 : decode b_R_markOfInode 1 = .ok (.bipush 6, 2) := by decide +kernel
theorem d_R_markOfInode_3 : decode b_R_markOfInode 3 = .ok (.idiv, 1) := by decide +kernel
theorem d_R_markOfInode_4 : decode b_R_markOfInode 4 = .ok (.bipush 12, 2) := by decide +kernel
theorem d_R_markOfInode_6 : decode b_R_markOfInode 6 = .ok (.imul, 1) := by decide +kernel
theorem d_R_markOfInode_7 : decode b_R_markOfInode 7 = .ok (.bipush 30, 2) := by decide +kernel
theorem d_R_markOfInode_9 : decode b_R_markOfInode 9 = .ok (.imul, 1) := by decide +kernel
theorem d_R_markOfInode_10 : decode b_R_markOfInode 10 = .ok (.iload_n 0, 1) := by decide +kernel
theorem d_R_markOfInode_11 : decode b_R_markOfInode 11 = .ok (.bipush 6, 2) := by decide +kernel
theorem d_R_markOfInode_13 : decode b_R_markOfInode 13 = .ok (.irem, 1) := by decide +kernel
theorem d_R_markOfInode_14 : decode b_R_markOfInode 14 = .ok (.iadd, 1) := by decide +kernel
theorem d_R_markOfInode_15 : decode b_R_markOfInode 15 = .ok (.ireturn, 1) := by decide +kernel
abbrev b_R_freeInode : ByteArray := prog_4_method_23_code
abbrev y_R_freeInode : MethodName := ⟨"OrderedVolumeModel", "freeInode", "(I)Z"⟩
abbrev o_R_freeInode : Cond := .code y_R_freeInode b_R_freeInode 2 (some .boolean)
abbrev rm_R_freeInode : Room := { frames := 1, cells := 0, slots := 0, locals := 21 }
theorem d_R_freeInode_0 : decode b_R_freeInode 0 = .ok (.aload_n 0, 1) := by decide +kernel
theorem d_R_freeInode_1 : decode b_R_freeInode 1 = .ok (.getfield 7, 3) := by decide +kernel
theorem d_R_freeInode_4 : decode b_R_freeInode 4 = .ok (.iload_n 1, 1) := by decide +kernel
theorem d_R_freeInode_5 : decode b_R_freeInode 5 = .ok (.invokestatic 48, 3) := by decide +kernel
theorem d_R_freeInode_8 : decode b_R_freeInode 8 = .ok (.iaload, 1) := by decide +kernel
theorem d_R_freeInode_9 : decode b_R_freeInode 9 = .ok (.ifCond .ne 20, 3) := by decide +kernel
theorem d_R_freeInode_12 : decode b_R_freeInode 12 = .ok (.aload_n 0, 1) := by decide +kernel
theorem d_R_freeInode_13 : decode b_R_freeInode 13 = .ok (.getfield 7, 3) := by decide +kernel
theorem d_R_freeInode_16 : decode b_R_freeInode 16 = .ok (.iload_n 1, 1) := by decide +kernel
theorem d_R_freeInode_17 : decode b_R_freeInode 17 = .ok (.iconst 0, 1) := by decide +kernel
theorem d_R_freeInode_18 : decode b_R_freeInode 18 = .ok (.invokestatic 44, 3) := by decide +kernel
theorem d_R_freeInode_21 : decode b_R_freeInode 21 = .ok (.iaload, 1) := by decide +kernel
theorem d_R_freeInode_22 : decode b_R_freeInode 22 = .ok (.ifCond .ne 7, 3) := by decide +kernel
theorem d_R_freeInode_25 : decode b_R_freeInode 25 = .ok (.iconst 1, 1) := by decide +kernel
theorem d_R_freeInode_26 : decode b_R_freeInode 26 = .ok (.goto 4, 3) := by decide +kernel
theorem d_R_freeInode_29 : decode b_R_freeInode 29 = .ok (.iconst 0, 1) := by decide +kernel
theorem d_R_freeInode_30 : decode b_R_freeInode 30 = .ok (.ireturn, 1) := by decide +kernel
abbrev b_R_inodeFor : ByteArray := prog_4_method_24_code
abbrev y_R_inodeFor : MethodName := ⟨"OrderedVolumeModel", "inodeFor", "(IZ)I"⟩
abbrev o_R_inodeFor : Cond := .code y_R_inodeFor b_R_inodeFor 8 (some .int)
abbrev rm_R_inodeFor : Room := { frames := 2, cells := 0, slots := 0, locals := 42 }
theorem d_R_inodeFor_0 : decode b_R_inodeFor 0 = .ok (.iload_n 1, 1) := by decide +kernel
theorem d_R_inodeFor_1 : decode b_R_inodeFor 1 = .ok (.bipush 6, 2) := by decide +kernel
theorem d_R_inodeFor_3 : decode b_R_inodeFor 3 = .ok (.idiv, 1) := by decide +kernel
theorem d_R_inodeFor_4 : decode b_R_inodeFor 4 = .ok (.istore_n 3, 1) := by decide +kernel
theorem d_R_inodeFor_5 : decode b_R_inodeFor 5 = .ok (.iconst (-1), 1) := by decide +kernel
theorem d_R_inodeFor_6 : decode b_R_inodeFor 6 = .ok (.istore 4, 2) := by decide +kernel
theorem d_R_inodeFor_8 : decode b_R_inodeFor 8 = .ok (.iconst 0, 1) := by decide +kernel
theorem d_R_inodeFor_9 : decode b_R_inodeFor 9 = .ok (.istore 5, 2) := by decide +kernel
theorem d_R_inodeFor_11 : decode b_R_inodeFor 11 = .ok (.iload 5, 2) := by decide +kernel
theorem d_R_inodeFor_13 : decode b_R_inodeFor 13 = .ok (.iconst 3, 1) := by decide +kernel
theorem d_R_inodeFor_14 : decode b_R_inodeFor 14 = .ok (.if_icmp .ge 92, 3) := by decide +kernel
theorem d_R_inodeFor_17 : decode b_R_inodeFor 17 = .ok (.iload_n 2, 1) := by decide +kernel
theorem d_R_inodeFor_18 : decode b_R_inodeFor 18 = .ok (.ifCond .eq 88, 3) := by decide +kernel
theorem d_R_inodeFor_21 : decode b_R_inodeFor 21 = .ok (.iconst 0, 1) := by decide +kernel
theorem d_R_inodeFor_22 : decode b_R_inodeFor 22 = .ok (.istore 6, 2) := by decide +kernel
theorem d_R_inodeFor_24 : decode b_R_inodeFor 24 = .ok (.bipush 6, 2) := by decide +kernel
theorem d_R_inodeFor_26 : decode b_R_inodeFor 26 = .ok (.iload 5, 2) := by decide +kernel
theorem d_R_inodeFor_28 : decode b_R_inodeFor 28 = .ok (.imul, 1) := by decide +kernel
theorem d_R_inodeFor_29 : decode b_R_inodeFor 29 = .ok (.istore 7, 2) := by decide +kernel
theorem d_R_inodeFor_31 : decode b_R_inodeFor 31 = .ok (.iload 7, 2) := by decide +kernel
theorem d_R_inodeFor_33 : decode b_R_inodeFor 33 = .ok (.bipush 6, 2) := by decide +kernel
theorem d_R_inodeFor_35 : decode b_R_inodeFor 35 = .ok (.iload 5, 2) := by decide +kernel
theorem d_R_inodeFor_37 : decode b_R_inodeFor 37 = .ok (.imul, 1) := by decide +kernel
theorem d_R_inodeFor_38 : decode b_R_inodeFor 38 = .ok (.bipush 6, 2) := by decide +kernel
theorem d_R_inodeFor_40 : decode b_R_inodeFor 40 = .ok (.iadd, 1) := by decide +kernel
theorem d_R_inodeFor_41 : decode b_R_inodeFor 41 = .ok (.if_icmp .ge 29, 3) := by decide +kernel
theorem d_R_inodeFor_44 : decode b_R_inodeFor 44 = .ok (.aload_n 0, 1) := by decide +kernel
theorem d_R_inodeFor_45 : decode b_R_inodeFor 45 = .ok (.iload 7, 2) := by decide +kernel
theorem d_R_inodeFor_47 : decode b_R_inodeFor 47 = .ok (.invokevirtual 96, 3) := by decide +kernel
theorem d_R_inodeFor_50 : decode b_R_inodeFor 50 = .ok (.ifCond .eq 10, 3) := by decide +kernel
theorem d_R_inodeFor_53 : decode b_R_inodeFor 53 = .ok (.iload 6, 2) := by decide +kernel
theorem d_R_inodeFor_55 : decode b_R_inodeFor 55 = .ok (.iconst 1, 1) := by decide +kernel
theorem d_R_inodeFor_56 : decode b_R_inodeFor 56 = .ok (.iadd, 1) := by decide +kernel
theorem d_R_inodeFor_57 : decode b_R_inodeFor 57 = .ok (.goto 5, 3) := by decide +kernel
theorem d_R_inodeFor_60 : decode b_R_inodeFor 60 = .ok (.iload 6, 2) := by decide +kernel
theorem d_R_inodeFor_62 : decode b_R_inodeFor 62 = .ok (.istore 6, 2) := by decide +kernel
theorem d_R_inodeFor_64 : decode b_R_inodeFor 64 = .ok (.iinc 7 1, 3) := by decide +kernel
theorem d_R_inodeFor_67 : decode b_R_inodeFor 67 = .ok (.goto (-36), 3) := by decide +kernel
theorem d_R_inodeFor_70 : decode b_R_inodeFor 70 = .ok (.iload 6, 2) := by decide +kernel
theorem d_R_inodeFor_72 : decode b_R_inodeFor 72 = .ok (.iload 4, 2) := by decide +kernel
theorem d_R_inodeFor_74 : decode b_R_inodeFor 74 = .ok (.if_icmp .le 8, 3) := by decide +kernel
theorem d_R_inodeFor_77 : decode b_R_inodeFor 77 = .ok (.iload 5, 2) := by decide +kernel
theorem d_R_inodeFor_79 : decode b_R_inodeFor 79 = .ok (.goto 4, 3) := by decide +kernel
theorem d_R_inodeFor_82 : decode b_R_inodeFor 82 = .ok (.iload_n 3, 1) := by decide +kernel
theorem d_R_inodeFor_83 : decode b_R_inodeFor 83 = .ok (.istore_n 3, 1) := by decide +kernel
theorem d_R_inodeFor_84 : decode b_R_inodeFor 84 = .ok (.iload 6, 2) := by decide +kernel
theorem d_R_inodeFor_86 : decode b_R_inodeFor 86 = .ok (.iload 4, 2) := by decide +kernel
theorem d_R_inodeFor_88 : decode b_R_inodeFor 88 = .ok (.if_icmp .le 8, 3) := by decide +kernel
theorem d_R_inodeFor_91 : decode b_R_inodeFor 91 = .ok (.iload 6, 2) := by decide +kernel
theorem d_R_inodeFor_93 : decode b_R_inodeFor 93 = .ok (.goto 5, 3) := by decide +kernel
theorem d_R_inodeFor_96 : decode b_R_inodeFor 96 = .ok (.iload 4, 2) := by decide +kernel
theorem d_R_inodeFor_98 : decode b_R_inodeFor 98 = .ok (.istore 4, 2) := by decide +kernel
theorem d_R_inodeFor_100 : decode b_R_inodeFor 100 = .ok (.iinc 5 1, 3) := by decide +kernel
theorem d_R_inodeFor_103 : decode b_R_inodeFor 103 = .ok (.goto (-92), 3) := by decide +kernel
theorem d_R_inodeFor_106 : decode b_R_inodeFor 106 = .ok (.iconst 0, 1) := by decide +kernel
theorem d_R_inodeFor_107 : decode b_R_inodeFor 107 = .ok (.istore 5, 2) := by decide +kernel
theorem d_R_inodeFor_109 : decode b_R_inodeFor 109 = .ok (.iload 5, 2) := by decide +kernel
theorem d_R_inodeFor_111 : decode b_R_inodeFor 111 = .ok (.bipush 18, 2) := by decide +kernel
theorem d_R_inodeFor_113 : decode b_R_inodeFor 113 = .ok (.if_icmp .ge 33, 3) := by decide +kernel
theorem d_R_inodeFor_116 : decode b_R_inodeFor 116 = .ok (.iload_n 3, 1) := by decide +kernel
theorem d_R_inodeFor_117 : decode b_R_inodeFor 117 = .ok (.bipush 6, 2) := by decide +kernel
theorem d_R_inodeFor_119 : decode b_R_inodeFor 119 = .ok (.imul, 1) := by decide +kernel
theorem d_R_inodeFor_120 : decode b_R_inodeFor 120 = .ok (.iload 5, 2) := by decide +kernel
theorem d_R_inodeFor_122 : decode b_R_inodeFor 122 = .ok (.iadd, 1) := by decide +kernel
theorem d_R_inodeFor_123 : decode b_R_inodeFor 123 = .ok (.bipush 18, 2) := by decide +kernel
theorem d_R_inodeFor_125 : decode b_R_inodeFor 125 = .ok (.irem, 1) := by decide +kernel
theorem d_R_inodeFor_126 : decode b_R_inodeFor 126 = .ok (.istore 6, 2) := by decide +kernel
theorem d_R_inodeFor_128 : decode b_R_inodeFor 128 = .ok (.aload_n 0, 1) := by decide +kernel
theorem d_R_inodeFor_129 : decode b_R_inodeFor 129 = .ok (.iload 6, 2) := by decide +kernel
theorem d_R_inodeFor_131 : decode b_R_inodeFor 131 = .ok (.invokevirtual 96, 3) := by decide +kernel
theorem d_R_inodeFor_134 : decode b_R_inodeFor 134 = .ok (.ifCond .eq 6, 3) := by decide +kernel
theorem d_R_inodeFor_137 : decode b_R_inodeFor 137 = .ok (.iload 6, 2) := by decide +kernel
theorem d_R_inodeFor_139 : decode b_R_inodeFor 139 = .ok (.ireturn, 1) := by decide +kernel
theorem d_R_inodeFor_140 : decode b_R_inodeFor 140 = .ok (.iinc 5 1, 3) := by decide +kernel
theorem d_R_inodeFor_143 : decode b_R_inodeFor 143 = .ok (.goto (-34), 3) := by decide +kernel
theorem d_R_inodeFor_146 : decode b_R_inodeFor 146 = .ok (.iconst (-1), 1) := by decide +kernel
theorem d_R_inodeFor_147 : decode b_R_inodeFor 147 = .ok (.ireturn, 1) := by decide +kernel
abbrev b_R_place : ByteArray := prog_4_method_14_code
abbrev y_R_place : MethodName := ⟨"OrderedVolumeModel", "place", "(I)I"⟩
abbrev o_R_place : Cond := .code y_R_place b_R_place 4 (some .int)
abbrev rm_R_place : Room := { frames := 1, cells := 0, slots := 0, locals := 22 }
theorem d_R_place_0 : decode b_R_place 0 = .ok (.aload_n 0, 1) := by decide +kernel
theorem d_R_place_1 : decode b_R_place 1 = .ok (.getfield 7, 3) := by decide +kernel
theorem d_R_place_4 : decode b_R_place 4 = .ok (.iload_n 1, 1) := by decide +kernel
theorem d_R_place_5 : decode b_R_place 5 = .ok (.iconst 2, 1) := by decide +kernel
theorem d_R_place_6 : decode b_R_place 6 = .ok (.invokestatic 44, 3) := by decide +kernel
theorem d_R_place_9 : decode b_R_place 9 = .ok (.iaload, 1) := by decide +kernel
theorem d_R_place_10 : decode b_R_place 10 = .ok (.istore_n 2, 1) := by decide +kernel
theorem d_R_place_11 : decode b_R_place 11 = .ok (.iconst 0, 1) := by decide +kernel
theorem d_R_place_12 : decode b_R_place 12 = .ok (.istore_n 3, 1) := by decide +kernel
theorem d_R_place_13 : decode b_R_place 13 = .ok (.iload_n 3, 1) := by decide +kernel
theorem d_R_place_14 : decode b_R_place 14 = .ok (.bipush 8, 2) := by decide +kernel
theorem d_R_place_16 : decode b_R_place 16 = .ok (.if_icmp .ge 34, 3) := by decide +kernel
theorem d_R_place_19 : decode b_R_place 19 = .ok (.aload_n 0, 1) := by decide +kernel
theorem d_R_place_20 : decode b_R_place 20 = .ok (.getfield 7, 3) := by decide +kernel
theorem d_R_place_23 : decode b_R_place 23 = .ok (.bipush 30, 2) := by decide +kernel
theorem d_R_place_25 : decode b_R_place 25 = .ok (.iload_n 2, 1) := by decide +kernel
theorem d_R_place_26 : decode b_R_place 26 = .ok (.imul, 1) := by decide +kernel
theorem d_R_place_27 : decode b_R_place 27 = .ok (.iload_n 3, 1) := by decide +kernel
theorem d_R_place_28 : decode b_R_place 28 = .ok (.iadd, 1) := by decide +kernel
theorem d_R_place_29 : decode b_R_place 29 = .ok (.iaload, 1) := by decide +kernel
theorem d_R_place_30 : decode b_R_place 30 = .ok (.ifCond .ne 14, 3) := by decide +kernel
theorem d_R_place_33 : decode b_R_place 33 = .ok (.aload_n 0, 1) := by decide +kernel
theorem d_R_place_34 : decode b_R_place 34 = .ok (.iload_n 2, 1) := by decide +kernel
theorem d_R_place_35 : decode b_R_place 35 = .ok (.iload_n 3, 1) := by decide +kernel
theorem d_R_place_36 : decode b_R_place 36 = .ok (.invokevirtual 66, 3) := by decide +kernel
theorem d_R_place_39 : decode b_R_place 39 = .ok (.ifCond .ne 5, 3) := by decide +kernel
theorem d_R_place_42 : decode b_R_place 42 = .ok (.iload_n 3, 1) := by decide +kernel
theorem d_R_place_43 : decode b_R_place 43 = .ok (.ireturn, 1) := by decide +kernel
theorem d_R_place_44 : decode b_R_place 44 = .ok (.iinc 3 1, 3) := by decide +kernel
theorem d_R_place_47 : decode b_R_place 47 = .ok (.goto (-34), 3) := by decide +kernel
theorem d_R_place_50 : decode b_R_place 50 = .ok (.iconst (-1), 1) := by decide +kernel
theorem d_R_place_51 : decode b_R_place 51 = .ok (.ireturn, 1) := by decide +kernel
abbrev b_R_room : ByteArray := prog_4_method_29_code
abbrev y_R_room : MethodName := ⟨"OrderedVolumeModel", "room", "(IZ)Z"⟩
abbrev o_R_room : Cond := .code y_R_room b_R_room 4 (some .boolean)
abbrev rm_R_room : Room := { frames := 3, cells := 0, slots := 0, locals := 69 }
theorem d_R_room_0 : decode b_R_room 0 = .ok (.aload_n 0, 1) := by decide +kernel
theorem d_R_room_1 : decode b_R_room 1 = .ok (.iload_n 1, 1) := by decide +kernel
theorem d_R_room_2 : decode b_R_room 2 = .ok (.iload_n 2, 1) := by decide +kernel
theorem d_R_room_3 : decode b_R_room 3 = .ok (.invokevirtual 102, 3) := by decide +kernel
theorem d_R_room_6 : decode b_R_room 6 = .ok (.istore_n 3, 1) := by decide +kernel
theorem d_R_room_7 : decode b_R_room 7 = .ok (.aload_n 0, 1) := by decide +kernel
theorem d_R_room_8 : decode b_R_room 8 = .ok (.iload_n 1, 1) := by decide +kernel
theorem d_R_room_9 : decode b_R_room 9 = .ok (.invokevirtual 72, 3) := by decide +kernel
theorem d_R_room_12 : decode b_R_room 12 = .ok (.ifCond .lt 26, 3) := by decide +kernel
theorem d_R_room_15 : decode b_R_room 15 = .ok (.iload_n 3, 1) := by decide +kernel
theorem d_R_room_16 : decode b_R_room 16 = .ok (.ifCond .lt 22, 3) := by decide +kernel
theorem d_R_room_19 : decode b_R_room 19 = .ok (.iload_n 2, 1) := by decide +kernel
theorem d_R_room_20 : decode b_R_room 20 = .ok (.ifCond .eq 14, 3) := by decide +kernel
theorem d_R_room_23 : decode b_R_room 23 = .ok (.aload_n 0, 1) := by decide +kernel
theorem d_R_room_24 : decode b_R_room 24 = .ok (.iload_n 3, 1) := by decide +kernel
theorem d_R_room_25 : decode b_R_room 25 = .ok (.bipush 6, 2) := by decide +kernel
theorem d_R_room_27 : decode b_R_room 27 = .ok (.idiv, 1) := by decide +kernel
theorem d_R_room_28 : decode b_R_room 28 = .ok (.invokevirtual 99, 3) := by decide +kernel
theorem d_R_room_31 : decode b_R_room 31 = .ok (.ifCond .lt 7, 3) := by decide +kernel
theorem d_R_room_34 : decode b_R_room 34 = .ok (.iconst 1, 1) := by decide +kernel
theorem d_R_room_35 : decode b_R_room 35 = .ok (.goto 4, 3) := by decide +kernel
theorem d_R_room_38 : decode b_R_room 38 = .ok (.iconst 0, 1) := by decide +kernel
theorem d_R_room_39 : decode b_R_room 39 = .ok (.ireturn, 1) := by decide +kernel
abbrev b_R_namedOnDisk : ByteArray := prog_4_method_19_code
abbrev y_R_namedOnDisk : MethodName := ⟨"OrderedVolumeModel", "namedOnDisk", "(I)Z"⟩
abbrev o_R_namedOnDisk : Cond := .code y_R_namedOnDisk b_R_namedOnDisk 4 (some .boolean)
abbrev rm_R_namedOnDisk : Room := { frames := 1, cells := 0, slots := 0, locals := 21 }
theorem d_R_namedOnDisk_0 : decode b_R_namedOnDisk 0 = .ok (.iconst 0, 1) := by decide +kernel
theorem d_R_namedOnDisk_1 : decode b_R_namedOnDisk 1 = .ok (.istore_n 2, 1) := by decide +kernel
theorem d_R_namedOnDisk_2 : decode b_R_namedOnDisk 2 = .ok (.iload_n 2, 1) := by decide +kernel
theorem d_R_namedOnDisk_3 : decode b_R_namedOnDisk 3 = .ok (.bipush 18, 2) := by decide +kernel
theorem d_R_namedOnDisk_5 : decode b_R_namedOnDisk 5 = .ok (.if_icmp .ge 38, 3) := by decide +kernel
theorem d_R_namedOnDisk_8 : decode b_R_namedOnDisk 8 = .ok (.iconst 2, 1) := by decide +kernel
theorem d_R_namedOnDisk_9 : decode b_R_namedOnDisk 9 = .ok (.istore_n 3, 1) := by decide +kernel
theorem d_R_namedOnDisk_10 : decode b_R_namedOnDisk 10 = .ok (.iload_n 3, 1) := by decide +kernel
theorem d_R_namedOnDisk_11 : decode b_R_namedOnDisk 11 = .ok (.iconst 5, 1) := by decide +kernel
theorem d_R_namedOnDisk_12 : decode b_R_namedOnDisk 12 = .ok (.if_icmp .ge 25, 3) := by decide +kernel
theorem d_R_namedOnDisk_15 : decode b_R_namedOnDisk 15 = .ok (.aload_n 0, 1) := by decide +kernel
theorem d_R_namedOnDisk_16 : decode b_R_namedOnDisk 16 = .ok (.getfield 13, 3) := by decide +kernel
theorem d_R_namedOnDisk_19 : decode b_R_namedOnDisk 19 = .ok (.iload_n 2, 1) := by decide +kernel
theorem d_R_namedOnDisk_20 : decode b_R_namedOnDisk 20 = .ok (.iload_n 3, 1) := by decide +kernel
theorem d_R_namedOnDisk_21 : decode b_R_namedOnDisk 21 = .ok (.invokestatic 44, 3) := by decide +kernel
theorem d_R_namedOnDisk_24 : decode b_R_namedOnDisk 24 = .ok (.iaload, 1) := by decide +kernel
theorem d_R_namedOnDisk_25 : decode b_R_namedOnDisk 25 = .ok (.iload_n 1, 1) := by decide +kernel
theorem d_R_namedOnDisk_26 : decode b_R_namedOnDisk 26 = .ok (.if_icmp .ne 5, 3) := by decide +kernel
theorem d_R_namedOnDisk_29 : decode b_R_namedOnDisk 29 = .ok (.iconst 1, 1) := by decide +kernel
theorem d_R_namedOnDisk_30 : decode b_R_namedOnDisk 30 = .ok (.ireturn, 1) := by decide +kernel
theorem d_R_namedOnDisk_31 : decode b_R_namedOnDisk 31 = .ok (.iinc 3 1, 3) := by decide +kernel
theorem d_R_namedOnDisk_34 : decode b_R_namedOnDisk 34 = .ok (.goto (-24), 3) := by decide +kernel
theorem d_R_namedOnDisk_37 : decode b_R_namedOnDisk 37 = .ok (.iinc 2 1, 3) := by decide +kernel
theorem d_R_namedOnDisk_40 : decode b_R_namedOnDisk 40 = .ok (.goto (-38), 3) := by decide +kernel
theorem d_R_namedOnDisk_43 : decode b_R_namedOnDisk 43 = .ok (.iconst 0, 1) := by decide +kernel
theorem d_R_namedOnDisk_44 : decode b_R_namedOnDisk 44 = .ok (.ireturn, 1) := by decide +kernel
abbrev b_R_settle : ByteArray := prog_4_method_21_code
abbrev y_R_settle : MethodName := ⟨"OrderedVolumeModel", "settle", "()V"⟩
abbrev o_R_settle : Cond := .code y_R_settle b_R_settle 4 none
abbrev rm_R_settle : Room := { frames := 4, cells := 0, slots := 0, locals := 89 }
theorem d_R_settle_0 : decode b_R_settle 0 = .ok (.iconst 1, 1) := by decide +kernel
theorem d_R_settle_1 : decode b_R_settle 1 = .ok (.istore_n 1, 1) := by decide +kernel
theorem d_R_settle_2 : decode b_R_settle 2 = .ok (.iconst 0, 1) := by decide +kernel
theorem d_R_settle_3 : decode b_R_settle 3 = .ok (.istore_n 2, 1) := by decide +kernel
theorem d_R_settle_4 : decode b_R_settle 4 = .ok (.iload_n 2, 1) := by decide +kernel
theorem d_R_settle_5 : decode b_R_settle 5 = .ok (.sipush 200, 3) := by decide +kernel
theorem d_R_settle_8 : decode b_R_settle 8 = .ok (.if_icmp .ge 123, 3) := by decide +kernel
theorem d_R_settle_11 : decode b_R_settle 11 = .ok (.iload_n 1, 1) := by decide +kernel
theorem d_R_settle_12 : decode b_R_settle 12 = .ok (.ifCond .eq 119, 3) := by decide +kernel
theorem d_R_settle_15 : decode b_R_settle 15 = .ok (.aload_n 0, 1) := by decide +kernel
theorem d_R_settle_16 : decode b_R_settle 16 = .ok (.invokevirtual 85, 3) := by decide +kernel
theorem d_R_settle_19 : decode b_R_settle 19 = .ok (.istore_n 1, 1) := by decide +kernel
theorem d_R_settle_20 : decode b_R_settle 20 = .ok (.iconst 0, 1) := by decide +kernel
theorem d_R_settle_21 : decode b_R_settle 21 = .ok (.istore_n 3, 1) := by decide +kernel
theorem d_R_settle_22 : decode b_R_settle 22 = .ok (.iload_n 3, 1) := by decide +kernel
theorem d_R_settle_23 : decode b_R_settle 23 = .ok (.bipush 36, 2) := by decide +kernel
theorem d_R_settle_25 : decode b_R_settle 25 = .ok (.if_icmp .ge 45, 3) := by decide +kernel
theorem d_R_settle_28 : decode b_R_settle 28 = .ok (.aload_n 0, 1) := by decide +kernel
theorem d_R_settle_29 : decode b_R_settle 29 = .ok (.getfield 23, 3) := by decide +kernel
theorem d_R_settle_32 : decode b_R_settle 32 = .ok (.iload_n 3, 1) := by decide +kernel
theorem d_R_settle_33 : decode b_R_settle 33 = .ok (.iaload, 1) := by decide +kernel
theorem d_R_settle_34 : decode b_R_settle 34 = .ok (.ifCond .le 30, 3) := by decide +kernel
theorem d_R_settle_37 : decode b_R_settle 37 = .ok (.aload_n 0, 1) := by decide +kernel
theorem d_R_settle_38 : decode b_R_settle 38 = .ok (.iload_n 3, 1) := by decide +kernel
theorem d_R_settle_39 : decode b_R_settle 39 = .ok (.invokevirtual 89, 3) := by decide +kernel
theorem d_R_settle_42 : decode b_R_settle 42 = .ok (.ifCond .ne 22, 3) := by decide +kernel
theorem d_R_settle_45 : decode b_R_settle 45 = .ok (.aload_n 0, 1) := by decide +kernel
theorem d_R_settle_46 : decode b_R_settle 46 = .ok (.getfield 7, 3) := by decide +kernel
theorem d_R_settle_49 : decode b_R_settle 49 = .ok (.iload_n 3, 1) := by decide +kernel
theorem d_R_settle_50 : decode b_R_settle 50 = .ok (.invokestatic 52, 3) := by decide +kernel
theorem d_R_settle_53 : decode b_R_settle 53 = .ok (.iconst 0, 1) := by decide +kernel
theorem d_R_settle_54 : decode b_R_settle 54 = .ok (.iastore, 1) := by decide +kernel
theorem d_R_settle_55 : decode b_R_settle 55 = .ok (.aload_n 0, 1) := by decide +kernel
theorem d_R_settle_56 : decode b_R_settle 56 = .ok (.getfield 23, 3) := by decide +kernel
theorem d_R_settle_59 : decode b_R_settle 59 = .ok (.iload_n 3, 1) := by decide +kernel
theorem d_R_settle_60 : decode b_R_settle 60 = .ok (.iconst 0, 1) := by decide +kernel
theorem d_R_settle_61 : decode b_R_settle 61 = .ok (.iastore, 1) := by decide +kernel
theorem d_R_settle_62 : decode b_R_settle 62 = .ok (.iconst 1, 1) := by decide +kernel
theorem d_R_settle_63 : decode b_R_settle 63 = .ok (.istore_n 1, 1) := by decide +kernel
theorem d_R_settle_64 : decode b_R_settle 64 = .ok (.iinc 3 1, 3) := by decide +kernel
theorem d_R_settle_67 : decode b_R_settle 67 = .ok (.goto (-45), 3) := by decide +kernel
theorem d_R_settle_70 : decode b_R_settle 70 = .ok (.iconst 0, 1) := by decide +kernel
theorem d_R_settle_71 : decode b_R_settle 71 = .ok (.istore_n 3, 1) := by decide +kernel
theorem d_R_settle_72 : decode b_R_settle 72 = .ok (.iload_n 3, 1) := by decide +kernel
theorem d_R_settle_73 : decode b_R_settle 73 = .ok (.bipush 18, 2) := by decide +kernel
theorem d_R_settle_75 : decode b_R_settle 75 = .ok (.if_icmp .ge 50, 3) := by decide +kernel
theorem d_R_settle_78 : decode b_R_settle 78 = .ok (.aload_n 0, 1) := by decide +kernel
theorem d_R_settle_79 : decode b_R_settle 79 = .ok (.getfield 26, 3) := by decide +kernel
theorem d_R_settle_82 : decode b_R_settle 82 = .ok (.iload_n 3, 1) := by decide +kernel
theorem d_R_settle_83 : decode b_R_settle 83 = .ok (.baload, 1) := by decide +kernel
theorem d_R_settle_84 : decode b_R_settle 84 = .ok (.ifCond .eq 35, 3) := by decide +kernel
theorem d_R_settle_87 : decode b_R_settle 87 = .ok (.aload_n 0, 1) := by decide +kernel
theorem d_R_settle_88 : decode b_R_settle 88 = .ok (.getfield 13, 3) := by decide +kernel
theorem d_R_settle_91 : decode b_R_settle 91 = .ok (.iload_n 3, 1) := by decide +kernel
theorem d_R_settle_92 : decode b_R_settle 92 = .ok (.iconst 0, 1) := by decide +kernel
theorem d_R_settle_93 : decode b_R_settle 93 = .ok (.invokestatic 44, 3) := by decide +kernel
theorem d_R_settle_96 : decode b_R_settle 96 = .ok (.iaload, 1) := by decide +kernel
theorem d_R_settle_97 : decode b_R_settle 97 = .ok (.ifCond .ne 22, 3) := by decide +kernel
theorem d_R_settle_100 : decode b_R_settle 100 = .ok (.aload_n 0, 1) := by decide +kernel
theorem d_R_settle_101 : decode b_R_settle 101 = .ok (.getfield 7, 3) := by decide +kernel
theorem d_R_settle_104 : decode b_R_settle 104 = .ok (.iload_n 3, 1) := by decide +kernel
theorem d_R_settle_105 : decode b_R_settle 105 = .ok (.invokestatic 48, 3) := by decide +kernel
theorem d_R_settle_108 : decode b_R_settle 108 = .ok (.iconst 0, 1) := by decide +kernel
theorem d_R_settle_109 : decode b_R_settle 109 = .ok (.iastore, 1) := by decide +kernel
theorem d_R_settle_110 : decode b_R_settle 110 = .ok (.aload_n 0, 1) := by decide +kernel
theorem d_R_settle_111 : decode b_R_settle 111 = .ok (.getfield 26, 3) := by decide +kernel
theorem d_R_settle_114 : decode b_R_settle 114 = .ok (.iload_n 3, 1) := by decide +kernel
theorem d_R_settle_115 : decode b_R_settle 115 = .ok (.iconst 0, 1) := by decide +kernel
theorem d_R_settle_116 : decode b_R_settle 116 = .ok (.bastore, 1) := by decide +kernel
theorem d_R_settle_117 : decode b_R_settle 117 = .ok (.iconst 1, 1) := by decide +kernel
theorem d_R_settle_118 : decode b_R_settle 118 = .ok (.istore_n 1, 1) := by decide +kernel
theorem d_R_settle_119 : decode b_R_settle 119 = .ok (.iinc 3 1, 3) := by decide +kernel
theorem d_R_settle_122 : decode b_R_settle 122 = .ok (.goto (-50), 3) := by decide +kernel
theorem d_R_settle_125 : decode b_R_settle 125 = .ok (.iinc 2 1, 3) := by decide +kernel
theorem d_R_settle_128 : decode b_R_settle 128 = .ok (.goto (-124), 3) := by decide +kernel
theorem d_R_settle_131 : decode b_R_settle 131 = .ok (.return_, 1) := by decide +kernel
abbrev b_R_flushTable : ByteArray := prog_4_method_39_code
abbrev y_R_flushTable : MethodName := ⟨"OrderedVolumeModel", "flushTable", "(I)I"⟩
abbrev o_R_flushTable : Cond := .code y_R_flushTable b_R_flushTable 6 (some .int)
abbrev rm_R_flushTable : Room := { frames := 5, cells := 0, slots := 0, locals := 112 }
theorem d_R_flushTable_0 : decode b_R_flushTable 0 = .ok (.iconst 0, 1) := by decide +kernel
theorem d_R_flushTable_1 : decode b_R_flushTable 1 = .ok (.istore_n 2, 1) := by decide +kernel
theorem d_R_flushTable_2 : decode b_R_flushTable 2 = .ok (.iconst 0, 1) := by decide +kernel
theorem d_R_flushTable_3 : decode b_R_flushTable 3 = .ok (.istore_n 3, 1) := by decide +kernel
theorem d_R_flushTable_4 : decode b_R_flushTable 4 = .ok (.iload_n 3, 1) := by decide +kernel
theorem d_R_flushTable_5 : decode b_R_flushTable 5 = .ok (.bipush 30, 2) := by decide +kernel
theorem d_R_flushTable_7 : decode b_R_flushTable 7 = .ok (.if_icmp .ge 125, 3) := by decide +kernel
theorem d_R_flushTable_10 : decode b_R_flushTable 10 = .ok (.aload_n 0, 1) := by decide +kernel
theorem d_R_flushTable_11 : decode b_R_flushTable 11 = .ok (.getfield 7, 3) := by decide +kernel
theorem d_R_flushTable_14 : decode b_R_flushTable 14 = .ok (.bipush 30, 2) := by decide +kernel
theorem d_R_flushTable_16 : decode b_R_flushTable 16 = .ok (.iload_n 1, 1) := by decide +kernel
theorem d_R_flushTable_17 : decode b_R_flushTable 17 = .ok (.imul, 1) := by decide +kernel
theorem d_R_flushTable_18 : decode b_R_flushTable 18 = .ok (.iload_n 3, 1) := by decide +kernel
theorem d_R_flushTable_19 : decode b_R_flushTable 19 = .ok (.iadd, 1) := by decide +kernel
theorem d_R_flushTable_20 : decode b_R_flushTable 20 = .ok (.iaload, 1) := by decide +kernel
theorem d_R_flushTable_21 : decode b_R_flushTable 21 = .ok (.istore 4, 2) := by decide +kernel
theorem d_R_flushTable_23 : decode b_R_flushTable 23 = .ok (.iload_n 3, 1) := by decide +kernel
theorem d_R_flushTable_24 : decode b_R_flushTable 24 = .ok (.iconst 5, 1) := by decide +kernel
theorem d_R_flushTable_25 : decode b_R_flushTable 25 = .ok (.irem, 1) := by decide +kernel
theorem d_R_flushTable_26 : decode b_R_flushTable 26 = .ok (.iconst 1, 1) := by decide +kernel
theorem d_R_flushTable_27 : decode b_R_flushTable 27 = .ok (.if_icmp .le 51, 3) := by decide +kernel
theorem d_R_flushTable_30 : decode b_R_flushTable 30 = .ok (.iload 4, 2) := by decide +kernel
theorem d_R_flushTable_32 : decode b_R_flushTable 32 = .ok (.ifCond .eq 46, 3) := by decide +kernel
theorem d_R_flushTable_35 : decode b_R_flushTable 35 = .ok (.iload 4, 2) := by decide +kernel
theorem d_R_flushTable_37 : decode b_R_flushTable 37 = .ok (.aload_n 0, 1) := by decide +kernel
theorem d_R_flushTable_38 : decode b_R_flushTable 38 = .ok (.getfield 13, 3) := by decide +kernel
theorem d_R_flushTable_41 : decode b_R_flushTable 41 = .ok (.bipush 30, 2) := by decide +kernel
theorem d_R_flushTable_43 : decode b_R_flushTable 43 = .ok (.iload_n 1, 1) := by decide +kernel
theorem d_R_flushTable_44 : decode b_R_flushTable 44 = .ok (.imul, 1) := by decide +kernel
theorem d_R_flushTable_45 : decode b_R_flushTable 45 = .ok (.iload_n 3, 1) := by decide +kernel
theorem d_R_flushTable_46 : decode b_R_flushTable 46 = .ok (.iadd, 1) := by decide +kernel
theorem d_R_flushTable_47 : decode b_R_flushTable 47 = .ok (.iaload, 1) := by decide +kernel
theorem d_R_flushTable_48 : decode b_R_flushTable 48 = .ok (.if_icmp .eq 30, 3) := by decide +kernel
theorem d_R_flushTable_51 : decode b_R_flushTable 51 = .ok (.aload_n 0, 1) := by decide +kernel
theorem d_R_flushTable_52 : decode b_R_flushTable 52 = .ok (.getfield 16, 3) := by decide +kernel
theorem d_R_flushTable_55 : decode b_R_flushTable 55 = .ok (.iload 4, 2) := by decide +kernel
theorem d_R_flushTable_57 : decode b_R_flushTable 57 = .ok (.baload, 1) := by decide +kernel
theorem d_R_flushTable_58 : decode b_R_flushTable 58 = .ok (.ifCond .ne 16, 3) := by decide +kernel
theorem d_R_flushTable_61 : decode b_R_flushTable 61 = .ok (.aload_n 0, 1) := by decide +kernel
theorem d_R_flushTable_62 : decode b_R_flushTable 62 = .ok (.getfield 13, 3) := by decide +kernel
theorem d_R_flushTable_65 : decode b_R_flushTable 65 = .ok (.iload 4, 2) := by decide +kernel
theorem d_R_flushTable_67 : decode b_R_flushTable 67 = .ok (.invokestatic 52, 3) := by decide +kernel
theorem d_R_flushTable_70 : decode b_R_flushTable 70 = .ok (.iaload, 1) := by decide +kernel
theorem d_R_flushTable_71 : decode b_R_flushTable 71 = .ok (.ifCond .ne 7, 3) := by decide +kernel
theorem d_R_flushTable_74 : decode b_R_flushTable 74 = .ok (.iconst 1, 1) := by decide +kernel
theorem d_R_flushTable_75 : decode b_R_flushTable 75 = .ok (.goto 4, 3) := by decide +kernel
theorem d_R_flushTable_78 : decode b_R_flushTable 78 = .ok (.iconst 0, 1) := by decide +kernel
theorem d_R_flushTable_79 : decode b_R_flushTable 79 = .ok (.istore 5, 2) := by decide +kernel
theorem d_R_flushTable_81 : decode b_R_flushTable 81 = .ok (.iload 5, 2) := by decide +kernel
theorem d_R_flushTable_83 : decode b_R_flushTable 83 = .ok (.ifCond .eq 9, 3) := by decide +kernel
theorem d_R_flushTable_86 : decode b_R_flushTable 86 = .ok (.iload_n 2, 1) := by decide +kernel
theorem d_R_flushTable_87 : decode b_R_flushTable 87 = .ok (.iconst 1, 1) := by decide +kernel
theorem d_R_flushTable_88 : decode b_R_flushTable 88 = .ok (.iadd, 1) := by decide +kernel
theorem d_R_flushTable_89 : decode b_R_flushTable 89 = .ok (.goto 4, 3) := by decide +kernel
theorem d_R_flushTable_92 : decode b_R_flushTable 92 = .ok (.iload_n 2, 1) := by decide +kernel
theorem d_R_flushTable_93 : decode b_R_flushTable 93 = .ok (.istore_n 2, 1) := by decide +kernel
theorem d_R_flushTable_94 : decode b_R_flushTable 94 = .ok (.aload_n 0, 1) := by decide +kernel
theorem d_R_flushTable_95 : decode b_R_flushTable 95 = .ok (.getfield 13, 3) := by decide +kernel
theorem d_R_flushTable_98 : decode b_R_flushTable 98 = .ok (.bipush 30, 2) := by decide +kernel
theorem d_R_flushTable_100 : decode b_R_flushTable 100 = .ok (.iload_n 1, 1) := by decide +kernel
theorem d_R_flushTable_101 : decode b_R_flushTable 101 = .ok (.imul, 1) := by decide +kernel
theorem d_R_flushTable_102 : decode b_R_flushTable 102 = .ok (.iload_n 3, 1) := by decide +kernel
theorem d_R_flushTable_103 : decode b_R_flushTable 103 = .ok (.iadd, 1) := by decide +kernel
theorem d_R_flushTable_104 : decode b_R_flushTable 104 = .ok (.iload 5, 2) := by decide +kernel
theorem d_R_flushTable_106 : decode b_R_flushTable 106 = .ok (.ifCond .eq 17, 3) := by decide +kernel
theorem d_R_flushTable_109 : decode b_R_flushTable 109 = .ok (.aload_n 0, 1) := by decide +kernel
theorem d_R_flushTable_110 : decode b_R_flushTable 110 = .ok (.getfield 13, 3) := by decide +kernel
theorem d_R_flushTable_113 : decode b_R_flushTable 113 = .ok (.bipush 30, 2) := by decide +kernel
theorem d_R_flushTable_115 : decode b_R_flushTable 115 = .ok (.iload_n 1, 1) := by decide +kernel
theorem d_R_flushTable_116 : decode b_R_flushTable 116 = .ok (.imul, 1) := by decide +kernel
theorem d_R_flushTable_117 : decode b_R_flushTable 117 = .ok (.iload_n 3, 1) := by decide +kernel
theorem d_R_flushTable_118 : decode b_R_flushTable 118 = .ok (.iadd, 1) := by decide +kernel
theorem d_R_flushTable_119 : decode b_R_flushTable 119 = .ok (.iaload, 1) := by decide +kernel
theorem d_R_flushTable_120 : decode b_R_flushTable 120 = .ok (.goto 5, 3) := by decide +kernel
theorem d_R_flushTable_123 : decode b_R_flushTable 123 = .ok (.iload 4, 2) := by decide +kernel
theorem d_R_flushTable_125 : decode b_R_flushTable 125 = .ok (.iastore, 1) := by decide +kernel
theorem d_R_flushTable_126 : decode b_R_flushTable 126 = .ok (.iinc 3 1, 3) := by decide +kernel
theorem d_R_flushTable_129 : decode b_R_flushTable 129 = .ok (.goto (-125), 3) := by decide +kernel
theorem d_R_flushTable_132 : decode b_R_flushTable 132 = .ok (.iconst 0, 1) := by decide +kernel
theorem d_R_flushTable_133 : decode b_R_flushTable 133 = .ok (.istore_n 3, 1) := by decide +kernel
theorem d_R_flushTable_134 : decode b_R_flushTable 134 = .ok (.iload_n 3, 1) := by decide +kernel
theorem d_R_flushTable_135 : decode b_R_flushTable 135 = .ok (.sipush 288, 3) := by decide +kernel
theorem d_R_flushTable_138 : decode b_R_flushTable 138 = .ok (.if_icmp .ge 63, 3) := by decide +kernel
theorem d_R_flushTable_141 : decode b_R_flushTable 141 = .ok (.aload_n 0, 1) := by decide +kernel
theorem d_R_flushTable_142 : decode b_R_flushTable 142 = .ok (.getfield 7, 3) := by decide +kernel
theorem d_R_flushTable_145 : decode b_R_flushTable 145 = .ok (.iload_n 3, 1) := by decide +kernel
theorem d_R_flushTable_146 : decode b_R_flushTable 146 = .ok (.bipush 8, 2) := by decide +kernel
theorem d_R_flushTable_148 : decode b_R_flushTable 148 = .ok (.idiv, 1) := by decide +kernel
theorem d_R_flushTable_149 : decode b_R_flushTable 149 = .ok (.bipush 30, 2) := by decide +kernel
theorem d_R_flushTable_151 : decode b_R_flushTable 151 = .ok (.imul, 1) := by decide +kernel
theorem d_R_flushTable_152 : decode b_R_flushTable 152 = .ok (.iload_n 3, 1) := by decide +kernel
theorem d_R_flushTable_153 : decode b_R_flushTable 153 = .ok (.bipush 8, 2) := by decide +kernel
theorem d_R_flushTable_155 : decode b_R_flushTable 155 = .ok (.irem, 1) := by decide +kernel
theorem d_R_flushTable_156 : decode b_R_flushTable 156 = .ok (.iadd, 1) := by decide +kernel
theorem d_R_flushTable_157 : decode b_R_flushTable 157 = .ok (.iaload, 1) := by decide +kernel
theorem d_R_flushTable_158 : decode b_R_flushTable 158 = .ok (.istore 4, 2) := by decide +kernel
theorem d_R_flushTable_160 : decode b_R_flushTable 160 = .ok (.aload_n 0, 1) := by decide +kernel
theorem d_R_flushTable_161 : decode b_R_flushTable 161 = .ok (.getfield 20, 3) := by decide +kernel
theorem d_R_flushTable_164 : decode b_R_flushTable 164 = .ok (.iload_n 3, 1) := by decide +kernel
theorem d_R_flushTable_165 : decode b_R_flushTable 165 = .ok (.aload_n 0, 1) := by decide +kernel
theorem d_R_flushTable_166 : decode b_R_flushTable 166 = .ok (.getfield 20, 3) := by decide +kernel
theorem d_R_flushTable_169 : decode b_R_flushTable 169 = .ok (.iload_n 3, 1) := by decide +kernel
theorem d_R_flushTable_170 : decode b_R_flushTable 170 = .ok (.baload, 1) := by decide +kernel
theorem d_R_flushTable_171 : decode b_R_flushTable 171 = .ok (.ifCond .eq 22, 3) := by decide +kernel
theorem d_R_flushTable_174 : decode b_R_flushTable 174 = .ok (.iload 4, 2) := by decide +kernel
theorem d_R_flushTable_176 : decode b_R_flushTable 176 = .ok (.bipush 32, 2) := by decide +kernel
theorem d_R_flushTable_178 : decode b_R_flushTable 178 = .ok (.irem, 1) := by decide +kernel
theorem d_R_flushTable_179 : decode b_R_flushTable 179 = .ok (.bipush 6, 2) := by decide +kernel
theorem d_R_flushTable_181 : decode b_R_flushTable 181 = .ok (.idiv, 1) := by decide +kernel
theorem d_R_flushTable_182 : decode b_R_flushTable 182 = .ok (.iload_n 1, 1) := by decide +kernel
theorem d_R_flushTable_183 : decode b_R_flushTable 183 = .ok (.bipush 12, 2) := by decide +kernel
theorem d_R_flushTable_185 : decode b_R_flushTable 185 = .ok (.idiv, 1) := by decide +kernel
theorem d_R_flushTable_186 : decode b_R_flushTable 186 = .ok (.if_icmp .eq 7, 3) := by decide +kernel
theorem d_R_flushTable_189 : decode b_R_flushTable 189 = .ok (.iconst 1, 1) := by decide +kernel
theorem d_R_flushTable_190 : decode b_R_flushTable 190 = .ok (.goto 4, 3) := by decide +kernel
theorem d_R_flushTable_193 : decode b_R_flushTable 193 = .ok (.iconst 0, 1) := by decide +kernel
theorem d_R_flushTable_194 : decode b_R_flushTable 194 = .ok (.bastore, 1) := by decide +kernel
theorem d_R_flushTable_195 : decode b_R_flushTable 195 = .ok (.iinc 3 1, 3) := by decide +kernel
theorem d_R_flushTable_198 : decode b_R_flushTable 198 = .ok (.goto (-64), 3) := by decide +kernel
theorem d_R_flushTable_201 : decode b_R_flushTable 201 = .ok (.aload_n 0, 1) := by decide +kernel
theorem d_R_flushTable_202 : decode b_R_flushTable 202 = .ok (.invokevirtual 79, 3) := by decide +kernel
theorem d_R_flushTable_205 : decode b_R_flushTable 205 = .ok (.iload_n 2, 1) := by decide +kernel
theorem d_R_flushTable_206 : decode b_R_flushTable 206 = .ok (.ireturn, 1) := by decide +kernel
abbrev b_R_early : ByteArray := prog_4_method_41_code
abbrev y_R_early : MethodName := ⟨"OrderedVolumeModel", "early", "(II)Z"⟩
abbrev o_R_early : Cond := .code y_R_early b_R_early 4 (some .boolean)
abbrev rm_R_early : Room := { frames := 1, cells := 0, slots := 0, locals := 21 }
theorem d_R_early_0 : decode b_R_early 0 = .ok (.aload_n 0, 1) := by decide +kernel
theorem d_R_early_1 : decode b_R_early 1 = .ok (.getfield 7, 3) := by decide +kernel
theorem d_R_early_4 : decode b_R_early 4 = .ok (.bipush 30, 2) := by decide +kernel
theorem d_R_early_6 : decode b_R_early 6 = .ok (.iload_n 1, 1) := by decide +kernel
theorem d_R_early_7 : decode b_R_early 7 = .ok (.imul, 1) := by decide +kernel
theorem d_R_early_8 : decode b_R_early 8 = .ok (.iload_n 2, 1) := by decide +kernel
theorem d_R_early_9 : decode b_R_early 9 = .ok (.iadd, 1) := by decide +kernel
theorem d_R_early_10 : decode b_R_early 10 = .ok (.iaload, 1) := by decide +kernel
theorem d_R_early_11 : decode b_R_early 11 = .ok (.bipush 32, 2) := by decide +kernel
theorem d_R_early_13 : decode b_R_early 13 = .ok (.irem, 1) := by decide +kernel
theorem d_R_early_14 : decode b_R_early 14 = .ok (.istore_n 3, 1) := by decide +kernel
theorem d_R_early_15 : decode b_R_early 15 = .ok (.aload_n 0, 1) := by decide +kernel
theorem d_R_early_16 : decode b_R_early 16 = .ok (.getfield 20, 3) := by decide +kernel
theorem d_R_early_19 : decode b_R_early 19 = .ok (.bipush 8, 2) := by decide +kernel
theorem d_R_early_21 : decode b_R_early 21 = .ok (.iload_n 1, 1) := by decide +kernel
theorem d_R_early_22 : decode b_R_early 22 = .ok (.imul, 1) := by decide +kernel
theorem d_R_early_23 : decode b_R_early 23 = .ok (.iload_n 2, 1) := by decide +kernel
theorem d_R_early_24 : decode b_R_early 24 = .ok (.iadd, 1) := by decide +kernel
theorem d_R_early_25 : decode b_R_early 25 = .ok (.baload, 1) := by decide +kernel
theorem d_R_early_26 : decode b_R_early 26 = .ok (.ifCond .ne 42, 3) := by decide +kernel
theorem d_R_early_29 : decode b_R_early 29 = .ok (.aload_n 0, 1) := by decide +kernel
theorem d_R_early_30 : decode b_R_early 30 = .ok (.getfield 13, 3) := by decide +kernel
theorem d_R_early_33 : decode b_R_early 33 = .ok (.iload_n 3, 1) := by decide +kernel
theorem d_R_early_34 : decode b_R_early 34 = .ok (.invokestatic 48, 3) := by decide +kernel
theorem d_R_early_37 : decode b_R_early 37 = .ok (.iaload, 1) := by decide +kernel
theorem d_R_early_38 : decode b_R_early 38 = .ok (.ifCond .eq 30, 3) := by decide +kernel
theorem d_R_early_41 : decode b_R_early 41 = .ok (.aload_n 0, 1) := by decide +kernel
theorem d_R_early_42 : decode b_R_early 42 = .ok (.getfield 7, 3) := by decide +kernel
theorem d_R_early_45 : decode b_R_early 45 = .ok (.iload_n 3, 1) := by decide +kernel
theorem d_R_early_46 : decode b_R_early 46 = .ok (.iconst 0, 1) := by decide +kernel
theorem d_R_early_47 : decode b_R_early 47 = .ok (.invokestatic 44, 3) := by decide +kernel
theorem d_R_early_50 : decode b_R_early 50 = .ok (.iaload, 1) := by decide +kernel
theorem d_R_early_51 : decode b_R_early 51 = .ok (.iconst 2, 1) := by decide +kernel
theorem d_R_early_52 : decode b_R_early 52 = .ok (.if_icmp .ne 20, 3) := by decide +kernel
theorem d_R_early_55 : decode b_R_early 55 = .ok (.aload_n 0, 1) := by decide +kernel
theorem d_R_early_56 : decode b_R_early 56 = .ok (.getfield 13, 3) := by decide +kernel
theorem d_R_early_59 : decode b_R_early 59 = .ok (.iload_n 3, 1) := by decide +kernel
theorem d_R_early_60 : decode b_R_early 60 = .ok (.iconst 2, 1) := by decide +kernel
theorem d_R_early_61 : decode b_R_early 61 = .ok (.invokestatic 44, 3) := by decide +kernel
theorem d_R_early_64 : decode b_R_early 64 = .ok (.iaload, 1) := by decide +kernel
theorem d_R_early_65 : decode b_R_early 65 = .ok (.ifCond .ne 7, 3) := by decide +kernel
theorem d_R_early_68 : decode b_R_early 68 = .ok (.iconst 1, 1) := by decide +kernel
theorem d_R_early_69 : decode b_R_early 69 = .ok (.goto 4, 3) := by decide +kernel
theorem d_R_early_72 : decode b_R_early 72 = .ok (.iconst 0, 1) := by decide +kernel
theorem d_R_early_73 : decode b_R_early 73 = .ok (.ireturn, 1) := by decide +kernel
abbrev b_R_loses : ByteArray := prog_4_method_42_code
abbrev y_R_loses : MethodName := ⟨"OrderedVolumeModel", "loses", "(II)Z"⟩
abbrev o_R_loses : Cond := .code y_R_loses b_R_loses 5 (some .boolean)
abbrev rm_R_loses : Room := { frames := 4, cells := 0, slots := 0, locals := 96 }
theorem d_R_loses_0 : decode b_R_loses 0 = .ok (.aload_n 0, 1) := by decide +kernel
theorem d_R_loses_1 : decode b_R_loses 1 = .ok (.iconst 0, 1) := by decide +kernel
theorem d_R_loses_2 : decode b_R_loses 2 = .ok (.aload_n 0, 1) := by decide +kernel
theorem d_R_loses_3 : decode b_R_loses 3 = .ok (.getfield 35, 3) := by decide +kernel
theorem d_R_loses_6 : decode b_R_loses 6 = .ok (.invokevirtual 69, 3) := by decide +kernel
theorem d_R_loses_9 : decode b_R_loses 9 = .ok (.aload_n 0, 1) := by decide +kernel
theorem d_R_loses_10 : decode b_R_loses 10 = .ok (.iconst 1, 1) := by decide +kernel
theorem d_R_loses_11 : decode b_R_loses 11 = .ok (.aload_n 0, 1) := by decide +kernel
theorem d_R_loses_12 : decode b_R_loses 12 = .ok (.getfield 38, 3) := by decide +kernel
theorem d_R_loses_15 : decode b_R_loses 15 = .ok (.invokevirtual 69, 3) := by decide +kernel
theorem d_R_loses_18 : decode b_R_loses 18 = .ok (.aload_n 0, 1) := by decide +kernel
theorem d_R_loses_19 : decode b_R_loses 19 = .ok (.getfield 13, 3) := by decide +kernel
theorem d_R_loses_22 : decode b_R_loses 22 = .ok (.bipush 30, 2) := by decide +kernel
theorem d_R_loses_24 : decode b_R_loses 24 = .ok (.iload_n 1, 1) := by decide +kernel
theorem d_R_loses_25 : decode b_R_loses 25 = .ok (.imul, 1) := by decide +kernel
theorem d_R_loses_26 : decode b_R_loses 26 = .ok (.iload_n 2, 1) := by decide +kernel
theorem d_R_loses_27 : decode b_R_loses 27 = .ok (.iadd, 1) := by decide +kernel
theorem d_R_loses_28 : decode b_R_loses 28 = .ok (.iaload, 1) := by decide +kernel
theorem d_R_loses_29 : decode b_R_loses 29 = .ok (.istore_n 3, 1) := by decide +kernel
theorem d_R_loses_30 : decode b_R_loses 30 = .ok (.aload_n 0, 1) := by decide +kernel
theorem d_R_loses_31 : decode b_R_loses 31 = .ok (.getfield 13, 3) := by decide +kernel
theorem d_R_loses_34 : decode b_R_loses 34 = .ok (.bipush 30, 2) := by decide +kernel
theorem d_R_loses_36 : decode b_R_loses 36 = .ok (.iload_n 1, 1) := by decide +kernel
theorem d_R_loses_37 : decode b_R_loses 37 = .ok (.imul, 1) := by decide +kernel
theorem d_R_loses_38 : decode b_R_loses 38 = .ok (.iload_n 2, 1) := by decide +kernel
theorem d_R_loses_39 : decode b_R_loses 39 = .ok (.iadd, 1) := by decide +kernel
theorem d_R_loses_40 : decode b_R_loses 40 = .ok (.iconst 0, 1) := by decide +kernel
theorem d_R_loses_41 : decode b_R_loses 41 = .ok (.iastore, 1) := by decide +kernel
theorem d_R_loses_42 : decode b_R_loses 42 = .ok (.aload_n 0, 1) := by decide +kernel
theorem d_R_loses_43 : decode b_R_loses 43 = .ok (.iconst 1, 1) := by decide +kernel
theorem d_R_loses_44 : decode b_R_loses 44 = .ok (.aload_n 0, 1) := by decide +kernel
theorem d_R_loses_45 : decode b_R_loses 45 = .ok (.getfield 41, 3) := by decide +kernel
theorem d_R_loses_48 : decode b_R_loses 48 = .ok (.invokevirtual 69, 3) := by decide +kernel
theorem d_R_loses_51 : decode b_R_loses 51 = .ok (.aload_n 0, 1) := by decide +kernel
theorem d_R_loses_52 : decode b_R_loses 52 = .ok (.getfield 13, 3) := by decide +kernel
theorem d_R_loses_55 : decode b_R_loses 55 = .ok (.bipush 30, 2) := by decide +kernel
theorem d_R_loses_57 : decode b_R_loses 57 = .ok (.iload_n 1, 1) := by decide +kernel
theorem d_R_loses_58 : decode b_R_loses 58 = .ok (.imul, 1) := by decide +kernel
theorem d_R_loses_59 : decode b_R_loses 59 = .ok (.iload_n 2, 1) := by decide +kernel
theorem d_R_loses_60 : decode b_R_loses 60 = .ok (.iadd, 1) := by decide +kernel
theorem d_R_loses_61 : decode b_R_loses 61 = .ok (.iload_n 3, 1) := by decide +kernel
theorem d_R_loses_62 : decode b_R_loses 62 = .ok (.iastore, 1) := by decide +kernel
theorem d_R_loses_63 : decode b_R_loses 63 = .ok (.iconst 0, 1) := by decide +kernel
theorem d_R_loses_64 : decode b_R_loses 64 = .ok (.istore 4, 2) := by decide +kernel
theorem d_R_loses_66 : decode b_R_loses 66 = .ok (.iload 4, 2) := by decide +kernel
theorem d_R_loses_68 : decode b_R_loses 68 = .ok (.bipush 18, 2) := by decide +kernel
theorem d_R_loses_70 : decode b_R_loses 70 = .ok (.if_icmp .ge 41, 3) := by decide +kernel
theorem d_R_loses_73 : decode b_R_loses 73 = .ok (.aload_n 0, 1) := by decide +kernel
theorem d_R_loses_74 : decode b_R_loses 74 = .ok (.getfield 35, 3) := by decide +kernel
theorem d_R_loses_77 : decode b_R_loses 77 = .ok (.iload 4, 2) := by decide +kernel
theorem d_R_loses_79 : decode b_R_loses 79 = .ok (.baload, 1) := by decide +kernel
theorem d_R_loses_80 : decode b_R_loses 80 = .ok (.ifCond .eq 25, 3) := by decide +kernel
theorem d_R_loses_83 : decode b_R_loses 83 = .ok (.aload_n 0, 1) := by decide +kernel
theorem d_R_loses_84 : decode b_R_loses 84 = .ok (.getfield 38, 3) := by decide +kernel
theorem d_R_loses_87 : decode b_R_loses 87 = .ok (.iload 4, 2) := by decide +kernel
theorem d_R_loses_89 : decode b_R_loses 89 = .ok (.baload, 1) := by decide +kernel
theorem d_R_loses_90 : decode b_R_loses 90 = .ok (.ifCond .eq 15, 3) := by decide +kernel
theorem d_R_loses_93 : decode b_R_loses 93 = .ok (.aload_n 0, 1) := by decide +kernel
theorem d_R_loses_94 : decode b_R_loses 94 = .ok (.getfield 41, 3) := by decide +kernel
theorem d_R_loses_97 : decode b_R_loses 97 = .ok (.iload 4, 2) := by decide +kernel
theorem d_R_loses_99 : decode b_R_loses 99 = .ok (.baload, 1) := by decide +kernel
theorem d_R_loses_100 : decode b_R_loses 100 = .ok (.ifCond .ne 5, 3) := by decide +kernel
theorem d_R_loses_103 : decode b_R_loses 103 = .ok (.iconst 1, 1) := by decide +kernel
theorem d_R_loses_104 : decode b_R_loses 104 = .ok (.ireturn, 1) := by decide +kernel
theorem d_R_loses_105 : decode b_R_loses 105 = .ok (.iinc 4 1, 3) := by decide +kernel
theorem d_R_loses_108 : decode b_R_loses 108 = .ok (.goto (-42), 3) := by decide +kernel
theorem d_R_loses_111 : decode b_R_loses 111 = .ok (.iconst 0, 1) := by decide +kernel
theorem d_R_loses_112 : decode b_R_loses 112 = .ok (.ireturn, 1) := by decide +kernel
abbrev b_R_flushEntries : ByteArray := prog_4_method_40_code
abbrev y_R_flushEntries : MethodName := ⟨"OrderedVolumeModel", "flushEntries", "(I)I"⟩
abbrev o_R_flushEntries : Cond := .code y_R_flushEntries b_R_flushEntries 5 (some .int)
abbrev rm_R_flushEntries : Room := { frames := 5, cells := 0, slots := 0, locals := 120 }
theorem d_R_flushEntries_0 : decode b_R_flushEntries 0 = .ok (.iconst 0, 1) := by decide +kernel
theorem d_R_flushEntries_1 : decode b_R_flushEntries 1 = .ok (.istore_n 2, 1) := by decide +kernel
theorem d_R_flushEntries_2 : decode b_R_flushEntries 2 = .ok (.iload_n 2, 1) := by decide +kernel
theorem d_R_flushEntries_3 : decode b_R_flushEntries 3 = .ok (.bipush 8, 2) := by decide +kernel
theorem d_R_flushEntries_5 : decode b_R_flushEntries 5 = .ok (.if_icmp .ge 30, 3) := by decide +kernel
theorem d_R_flushEntries_8 : decode b_R_flushEntries 8 = .ok (.aload_n 0, 1) := by decide +kernel
theorem d_R_flushEntries_9 : decode b_R_flushEntries 9 = .ok (.getfield 16, 3) := by decide +kernel
theorem d_R_flushEntries_12 : decode b_R_flushEntries 12 = .ok (.iload_n 1, 1) := by decide +kernel
theorem d_R_flushEntries_13 : decode b_R_flushEntries 13 = .ok (.baload, 1) := by decide +kernel
theorem d_R_flushEntries_14 : decode b_R_flushEntries 14 = .ok (.ifCond .eq 21, 3) := by decide +kernel
theorem d_R_flushEntries_17 : decode b_R_flushEntries 17 = .ok (.aload_n 0, 1) := by decide +kernel
theorem d_R_flushEntries_18 : decode b_R_flushEntries 18 = .ok (.getfield 13, 3) := by decide +kernel
theorem d_R_flushEntries_21 : decode b_R_flushEntries 21 = .ok (.bipush 30, 2) := by decide +kernel
theorem d_R_flushEntries_23 : decode b_R_flushEntries 23 = .ok (.iload_n 1, 1) := by decide +kernel
theorem d_R_flushEntries_24 : decode b_R_flushEntries 24 = .ok (.imul, 1) := by decide +kernel
theorem d_R_flushEntries_25 : decode b_R_flushEntries 25 = .ok (.iload_n 2, 1) := by decide +kernel
theorem d_R_flushEntries_26 : decode b_R_flushEntries 26 = .ok (.iadd, 1) := by decide +kernel
theorem d_R_flushEntries_27 : decode b_R_flushEntries 27 = .ok (.iconst 0, 1) := by decide +kernel
theorem d_R_flushEntries_28 : decode b_R_flushEntries 28 = .ok (.iastore, 1) := by decide +kernel
theorem d_R_flushEntries_29 : decode b_R_flushEntries 29 = .ok (.iinc 2 1, 3) := by decide +kernel
theorem d_R_flushEntries_32 : decode b_R_flushEntries 32 = .ok (.goto (-30), 3) := by decide +kernel
theorem d_R_flushEntries_35 : decode b_R_flushEntries 35 = .ok (.aload_n 0, 1) := by decide +kernel
theorem d_R_flushEntries_36 : decode b_R_flushEntries 36 = .ok (.getfield 16, 3) := by decide +kernel
theorem d_R_flushEntries_39 : decode b_R_flushEntries 39 = .ok (.iload_n 1, 1) := by decide +kernel
theorem d_R_flushEntries_40 : decode b_R_flushEntries 40 = .ok (.iconst 0, 1) := by decide +kernel
theorem d_R_flushEntries_41 : decode b_R_flushEntries 41 = .ok (.bastore, 1) := by decide +kernel
theorem d_R_flushEntries_42 : decode b_R_flushEntries 42 = .ok (.iconst 0, 1) := by decide +kernel
theorem d_R_flushEntries_43 : decode b_R_flushEntries 43 = .ok (.istore_n 2, 1) := by decide +kernel
theorem d_R_flushEntries_44 : decode b_R_flushEntries 44 = .ok (.iconst 0, 1) := by decide +kernel
theorem d_R_flushEntries_45 : decode b_R_flushEntries 45 = .ok (.istore_n 3, 1) := by decide +kernel
theorem d_R_flushEntries_46 : decode b_R_flushEntries 46 = .ok (.iload_n 3, 1) := by decide +kernel
theorem d_R_flushEntries_47 : decode b_R_flushEntries 47 = .ok (.bipush 8, 2) := by decide +kernel
theorem d_R_flushEntries_49 : decode b_R_flushEntries 49 = .ok (.if_icmp .ge 87, 3) := by decide +kernel
theorem d_R_flushEntries_52 : decode b_R_flushEntries 52 = .ok (.aload_n 0, 1) := by decide +kernel
theorem d_R_flushEntries_53 : decode b_R_flushEntries 53 = .ok (.getfield 7, 3) := by decide +kernel
theorem d_R_flushEntries_56 : decode b_R_flushEntries 56 = .ok (.bipush 30, 2) := by decide +kernel
theorem d_R_flushEntries_58 : decode b_R_flushEntries 58 = .ok (.iload_n 1, 1) := by decide +kernel
theorem d_R_flushEntries_59 : decode b_R_flushEntries 59 = .ok (.imul, 1) := by decide +kernel
theorem d_R_flushEntries_60 : decode b_R_flushEntries 60 = .ok (.iload_n 3, 1) := by decide +kernel
theorem d_R_flushEntries_61 : decode b_R_flushEntries 61 = .ok (.iadd, 1) := by decide +kernel
theorem d_R_flushEntries_62 : decode b_R_flushEntries 62 = .ok (.iaload, 1) := by decide +kernel
theorem d_R_flushEntries_63 : decode b_R_flushEntries 63 = .ok (.istore 4, 2) := by decide +kernel
theorem d_R_flushEntries_65 : decode b_R_flushEntries 65 = .ok (.iload 4, 2) := by decide +kernel
theorem d_R_flushEntries_67 : decode b_R_flushEntries 67 = .ok (.aload_n 0, 1) := by decide +kernel
theorem d_R_flushEntries_68 : decode b_R_flushEntries 68 = .ok (.getfield 13, 3) := by decide +kernel
theorem d_R_flushEntries_71 : decode b_R_flushEntries 71 = .ok (.bipush 30, 2) := by decide +kernel
theorem d_R_flushEntries_73 : decode b_R_flushEntries 73 = .ok (.iload_n 1, 1) := by decide +kernel
theorem d_R_flushEntries_74 : decode b_R_flushEntries 74 = .ok (.imul, 1) := by decide +kernel
theorem d_R_flushEntries_75 : decode b_R_flushEntries 75 = .ok (.iload_n 3, 1) := by decide +kernel
theorem d_R_flushEntries_76 : decode b_R_flushEntries 76 = .ok (.iadd, 1) := by decide +kernel
theorem d_R_flushEntries_77 : decode b_R_flushEntries 77 = .ok (.iaload, 1) := by decide +kernel
theorem d_R_flushEntries_78 : decode b_R_flushEntries 78 = .ok (.if_icmp .eq 52, 3) := by decide +kernel
theorem d_R_flushEntries_81 : decode b_R_flushEntries 81 = .ok (.iload 4, 2) := by decide +kernel
theorem d_R_flushEntries_83 : decode b_R_flushEntries 83 = .ok (.ifCond .eq 15, 3) := by decide +kernel
theorem d_R_flushEntries_86 : decode b_R_flushEntries 86 = .ok (.aload_n 0, 1) := by decide +kernel
theorem d_R_flushEntries_87 : decode b_R_flushEntries 87 = .ok (.iload_n 1, 1) := by decide +kernel
theorem d_R_flushEntries_88 : decode b_R_flushEntries 88 = .ok (.iload_n 3, 1) := by decide +kernel
theorem d_R_flushEntries_89 : decode b_R_flushEntries 89 = .ok (.invokevirtual 154, 3) := by decide +kernel
theorem d_R_flushEntries_92 : decode b_R_flushEntries 92 = .ok (.ifCond .eq 21, 3) := by decide +kernel
theorem d_R_flushEntries_95 : decode b_R_flushEntries 95 = .ok (.goto 12, 3) := by decide +kernel
theorem d_R_flushEntries_98 : decode b_R_flushEntries 98 = .ok (.aload_n 0, 1) := by decide +kernel
theorem d_R_flushEntries_99 : decode b_R_flushEntries 99 = .ok (.iload_n 1, 1) := by decide +kernel
theorem d_R_flushEntries_100 : decode b_R_flushEntries 100 = .ok (.iload_n 3, 1) := by decide +kernel
theorem d_R_flushEntries_101 : decode b_R_flushEntries 101 = .ok (.invokevirtual 157, 3) := by decide +kernel
theorem d_R_flushEntries_104 : decode b_R_flushEntries 104 = .ok (.ifCond .eq 9, 3) := by decide +kernel
theorem d_R_flushEntries_107 : decode b_R_flushEntries 107 = .ok (.iinc 2 1, 3) := by decide +kernel
theorem d_R_flushEntries_110 : decode b_R_flushEntries 110 = .ok (.goto 20, 3) := by decide +kernel
theorem d_R_flushEntries_113 : decode b_R_flushEntries 113 = .ok (.aload_n 0, 1) := by decide +kernel
theorem d_R_flushEntries_114 : decode b_R_flushEntries 114 = .ok (.getfield 13, 3) := by decide +kernel
theorem d_R_flushEntries_117 : decode b_R_flushEntries 117 = .ok (.bipush 30, 2) := by decide +kernel
theorem d_R_flushEntries_119 : decode b_R_flushEntries 119 = .ok (.iload_n 1, 1) := by decide +kernel
theorem d_R_flushEntries_120 : decode b_R_flushEntries 120 = .ok (.imul, 1) := by decide +kernel
theorem d_R_flushEntries_121 : decode b_R_flushEntries 121 = .ok (.iload_n 3, 1) := by decide +kernel
theorem d_R_flushEntries_122 : decode b_R_flushEntries 122 = .ok (.iadd, 1) := by decide +kernel
theorem d_R_flushEntries_123 : decode b_R_flushEntries 123 = .ok (.iload 4, 2) := by decide +kernel
theorem d_R_flushEntries_125 : decode b_R_flushEntries 125 = .ok (.iastore, 1) := by decide +kernel
theorem d_R_flushEntries_126 : decode b_R_flushEntries 126 = .ok (.aload_n 0, 1) := by decide +kernel
theorem d_R_flushEntries_127 : decode b_R_flushEntries 127 = .ok (.invokevirtual 79, 3) := by decide +kernel
theorem d_R_flushEntries_130 : decode b_R_flushEntries 130 = .ok (.iinc 3 1, 3) := by decide +kernel
theorem d_R_flushEntries_133 : decode b_R_flushEntries 133 = .ok (.goto (-87), 3) := by decide +kernel
theorem d_R_flushEntries_136 : decode b_R_flushEntries 136 = .ok (.iload_n 2, 1) := by decide +kernel
theorem d_R_flushEntries_137 : decode b_R_flushEntries 137 = .ok (.ireturn, 1) := by decide +kernel
abbrev b_R_flush : ByteArray := prog_4_method_38_code
abbrev y_R_flush : MethodName := ⟨"OrderedVolumeModel", "flush", "(I)I"⟩
abbrev o_R_flush : Cond := .code y_R_flush b_R_flush 4 (some .int)
abbrev rm_R_flush : Room := { frames := 6, cells := 0, slots := 0, locals := 144 }
theorem d_R_flush_0 : decode b_R_flush 0 = .ok (.iload_n 1, 1) := by decide +kernel
theorem d_R_flush_1 : decode b_R_flush 1 = .ok (.ifCond .lt 9, 3) := by decide +kernel
theorem d_R_flush_4 : decode b_R_flush 4 = .ok (.iload_n 1, 1) := by decide +kernel
theorem d_R_flush_5 : decode b_R_flush 5 = .ok (.bipush 35, 2) := by decide +kernel
theorem d_R_flush_7 : decode b_R_flush 7 = .ok (.if_icmp .le 5, 3) := by decide +kernel
theorem d_R_flush_10 : decode b_R_flush 10 = .ok (.iconst (-1), 1) := by decide +kernel
theorem d_R_flush_11 : decode b_R_flush 11 = .ok (.ireturn, 1) := by decide +kernel
theorem d_R_flush_12 : decode b_R_flush 12 = .ok (.iload_n 1, 1) := by decide +kernel
theorem d_R_flush_13 : decode b_R_flush 13 = .ok (.bipush 12, 2) := by decide +kernel
theorem d_R_flush_15 : decode b_R_flush 15 = .ok (.irem, 1) := by decide +kernel
theorem d_R_flush_16 : decode b_R_flush 16 = .ok (.iconst 1, 1) := by decide +kernel
theorem d_R_flush_17 : decode b_R_flush 17 = .ok (.if_icmp .ne 9, 3) := by decide +kernel
theorem d_R_flush_20 : decode b_R_flush 20 = .ok (.aload_n 0, 1) := by decide +kernel
theorem d_R_flush_21 : decode b_R_flush 21 = .ok (.iload_n 1, 1) := by decide +kernel
theorem d_R_flush_22 : decode b_R_flush 22 = .ok (.invokevirtual 148, 3) := by decide +kernel
theorem d_R_flush_25 : decode b_R_flush 25 = .ok (.ireturn, 1) := by decide +kernel
theorem d_R_flush_26 : decode b_R_flush 26 = .ok (.iload_n 1, 1) := by decide +kernel
theorem d_R_flush_27 : decode b_R_flush 27 = .ok (.bipush 12, 2) := by decide +kernel
theorem d_R_flush_29 : decode b_R_flush 29 = .ok (.irem, 1) := by decide +kernel
theorem d_R_flush_30 : decode b_R_flush 30 = .ok (.ifCond .ne 7, 3) := by decide +kernel
theorem d_R_flush_33 : decode b_R_flush 33 = .ok (.iconst 1, 1) := by decide +kernel
theorem d_R_flush_34 : decode b_R_flush 34 = .ok (.goto 8, 3) := by decide +kernel
theorem d_R_flush_37 : decode b_R_flush 37 = .ok (.aload_n 0, 1) := by decide +kernel
theorem d_R_flush_38 : decode b_R_flush 38 = .ok (.iload_n 1, 1) := by decide +kernel
theorem d_R_flush_39 : decode b_R_flush 39 = .ok (.invokevirtual 93, 3) := by decide +kernel
theorem d_R_flush_42 : decode b_R_flush 42 = .ok (.istore_n 2, 1) := by decide +kernel
theorem d_R_flush_43 : decode b_R_flush 43 = .ok (.iload_n 2, 1) := by decide +kernel
theorem d_R_flush_44 : decode b_R_flush 44 = .ok (.iconst 2, 1) := by decide +kernel
theorem d_R_flush_45 : decode b_R_flush 45 = .ok (.if_icmp .ne 9, 3) := by decide +kernel
theorem d_R_flush_48 : decode b_R_flush 48 = .ok (.aload_n 0, 1) := by decide +kernel
theorem d_R_flush_49 : decode b_R_flush 49 = .ok (.iload_n 1, 1) := by decide +kernel
theorem d_R_flush_50 : decode b_R_flush 50 = .ok (.invokevirtual 151, 3) := by decide +kernel
theorem d_R_flush_53 : decode b_R_flush 53 = .ok (.ireturn, 1) := by decide +kernel
theorem d_R_flush_54 : decode b_R_flush 54 = .ok (.iconst 0, 1) := by decide +kernel
theorem d_R_flush_55 : decode b_R_flush 55 = .ok (.istore_n 3, 1) := by decide +kernel
theorem d_R_flush_56 : decode b_R_flush 56 = .ok (.iload_n 3, 1) := by decide +kernel
theorem d_R_flush_57 : decode b_R_flush 57 = .ok (.iload_n 1, 1) := by decide +kernel
theorem d_R_flush_58 : decode b_R_flush 58 = .ok (.invokestatic 55, 3) := by decide +kernel
theorem d_R_flush_61 : decode b_R_flush 61 = .ok (.if_icmp .ge 36, 3) := by decide +kernel
theorem d_R_flush_64 : decode b_R_flush 64 = .ok (.iload_n 2, 1) := by decide +kernel
theorem d_R_flush_65 : decode b_R_flush 65 = .ok (.iconst 1, 1) := by decide +kernel
theorem d_R_flush_66 : decode b_R_flush 66 = .ok (.if_icmp .ne 31, 3) := by decide +kernel
theorem d_R_flush_69 : decode b_R_flush 69 = .ok (.aload_n 0, 1) := by decide +kernel
theorem d_R_flush_70 : decode b_R_flush 70 = .ok (.getfield 13, 3) := by decide +kernel
theorem d_R_flush_73 : decode b_R_flush 73 = .ok (.bipush 30, 2) := by decide +kernel
theorem d_R_flush_75 : decode b_R_flush 75 = .ok (.iload_n 1, 1) := by decide +kernel
theorem d_R_flush_76 : decode b_R_flush 76 = .ok (.imul, 1) := by decide +kernel
theorem d_R_flush_77 : decode b_R_flush 77 = .ok (.iload_n 3, 1) := by decide +kernel
theorem d_R_flush_78 : decode b_R_flush 78 = .ok (.iadd, 1) := by decide +kernel
theorem d_R_flush_79 : decode b_R_flush 79 = .ok (.aload_n 0, 1) := by decide +kernel
theorem d_R_flush_80 : decode b_R_flush 80 = .ok (.getfield 7, 3) := by decide +kernel
theorem d_R_flush_83 : decode b_R_flush 83 = .ok (.bipush 30, 2) := by decide +kernel
theorem d_R_flush_85 : decode b_R_flush 85 = .ok (.iload_n 1, 1) := by decide +kernel
theorem d_R_flush_86 : decode b_R_flush 86 = .ok (.imul, 1) := by decide +kernel
theorem d_R_flush_87 : decode b_R_flush 87 = .ok (.iload_n 3, 1) := by decide +kernel
theorem d_R_flush_88 : decode b_R_flush 88 = .ok (.iadd, 1) := by decide +kernel
theorem d_R_flush_89 : decode b_R_flush 89 = .ok (.iaload, 1) := by decide +kernel
theorem d_R_flush_90 : decode b_R_flush 90 = .ok (.iastore, 1) := by decide +kernel
theorem d_R_flush_91 : decode b_R_flush 91 = .ok (.iinc 3 1, 3) := by decide +kernel
theorem d_R_flush_94 : decode b_R_flush 94 = .ok (.goto (-38), 3) := by decide +kernel
theorem d_R_flush_97 : decode b_R_flush 97 = .ok (.aload_n 0, 1) := by decide +kernel
theorem d_R_flush_98 : decode b_R_flush 98 = .ok (.getfield 16, 3) := by decide +kernel
theorem d_R_flush_101 : decode b_R_flush 101 = .ok (.iload_n 1, 1) := by decide +kernel
theorem d_R_flush_102 : decode b_R_flush 102 = .ok (.aload_n 0, 1) := by decide +kernel
theorem d_R_flush_103 : decode b_R_flush 103 = .ok (.getfield 16, 3) := by decide +kernel
theorem d_R_flush_106 : decode b_R_flush 106 = .ok (.iload_n 1, 1) := by decide +kernel
theorem d_R_flush_107 : decode b_R_flush 107 = .ok (.baload, 1) := by decide +kernel
theorem d_R_flush_108 : decode b_R_flush 108 = .ok (.ifCond .eq 12, 3) := by decide +kernel
theorem d_R_flush_111 : decode b_R_flush 111 = .ok (.iload_n 2, 1) := by decide +kernel
theorem d_R_flush_112 : decode b_R_flush 112 = .ok (.iconst 1, 1) := by decide +kernel
theorem d_R_flush_113 : decode b_R_flush 113 = .ok (.if_icmp .eq 7, 3) := by decide +kernel
theorem d_R_flush_116 : decode b_R_flush 116 = .ok (.iconst 1, 1) := by decide +kernel
theorem d_R_flush_117 : decode b_R_flush 117 = .ok (.goto 4, 3) := by decide +kernel
theorem d_R_flush_120 : decode b_R_flush 120 = .ok (.iconst 0, 1) := by decide +kernel
theorem d_R_flush_121 : decode b_R_flush 121 = .ok (.bastore, 1) := by decide +kernel
theorem d_R_flush_122 : decode b_R_flush 122 = .ok (.iconst 0, 1) := by decide +kernel
theorem d_R_flush_123 : decode b_R_flush 123 = .ok (.ireturn, 1) := by decide +kernel
abbrev b_R_sync : ByteArray := prog_4_method_45_code
abbrev y_R_sync : MethodName := ⟨"OrderedVolumeModel", "sync", "()I"⟩
abbrev o_R_sync : Cond := .code y_R_sync b_R_sync 3 (some .int)
abbrev rm_R_sync : Room := { frames := 7, cells := 0, slots := 0, locals := 167 }
theorem d_R_sync_0 : decode b_R_sync 0 = .ok (.iconst 0, 1) := by decide +kernel
theorem d_R_sync_1 : decode b_R_sync 1 = .ok (.istore_n 1, 1) := by decide +kernel
theorem d_R_sync_2 : decode b_R_sync 2 = .ok (.iload_n 1, 1) := by decide +kernel
theorem d_R_sync_3 : decode b_R_sync 3 = .ok (.sipush 1000, 3) := by decide +kernel
theorem d_R_sync_6 : decode b_R_sync 6 = .ok (.if_icmp .ge 36, 3) := by decide +kernel
theorem d_R_sync_9 : decode b_R_sync 9 = .ok (.aload_n 0, 1) := by decide +kernel
theorem d_R_sync_10 : decode b_R_sync 10 = .ok (.invokevirtual 163, 3) := by decide +kernel
theorem d_R_sync_13 : decode b_R_sync 13 = .ok (.ifCond .ne 29, 3) := by decide +kernel
theorem d_R_sync_16 : decode b_R_sync 16 = .ok (.iconst 0, 1) := by decide +kernel
theorem d_R_sync_17 : decode b_R_sync 17 = .ok (.istore_n 2, 1) := by decide +kernel
theorem d_R_sync_18 : decode b_R_sync 18 = .ok (.iload_n 2, 1) := by decide +kernel
theorem d_R_sync_19 : decode b_R_sync 19 = .ok (.bipush 36, 2) := by decide +kernel
theorem d_R_sync_21 : decode b_R_sync 21 = .ok (.if_icmp .ge 15, 3) := by decide +kernel
theorem d_R_sync_24 : decode b_R_sync 24 = .ok (.aload_n 0, 1) := by decide +kernel
theorem d_R_sync_25 : decode b_R_sync 25 = .ok (.iload_n 2, 1) := by decide +kernel
theorem d_R_sync_26 : decode b_R_sync 26 = .ok (.invokevirtual 166, 3) := by decide +kernel
theorem d_R_sync_29 : decode b_R_sync 29 = .ok (.pop, 1) := by decide +kernel
theorem d_R_sync_30 : decode b_R_sync 30 = .ok (.iinc 2 1, 3) := by decide +kernel
theorem d_R_sync_33 : decode b_R_sync 33 = .ok (.goto (-15), 3) := by decide +kernel
theorem d_R_sync_36 : decode b_R_sync 36 = .ok (.iinc 1 1, 3) := by decide +kernel
theorem d_R_sync_39 : decode b_R_sync 39 = .ok (.goto (-37), 3) := by decide +kernel
theorem d_R_sync_42 : decode b_R_sync 42 = .ok (.aload_n 0, 1) := by decide +kernel
theorem d_R_sync_43 : decode b_R_sync 43 = .ok (.iconst 0, 1) := by decide +kernel
theorem d_R_sync_44 : decode b_R_sync 44 = .ok (.putfield 141, 3) := by decide +kernel
theorem d_R_sync_47 : decode b_R_sync 47 = .ok (.iload_n 1, 1) := by decide +kernel
theorem d_R_sync_48 : decode b_R_sync 48 = .ok (.ireturn, 1) := by decide +kernel
abbrev b_R_take : ByteArray := prog_4_method_27_code
abbrev y_R_take : MethodName := ⟨"OrderedVolumeModel", "take", "(I)V"⟩
abbrev o_R_take : Cond := .code y_R_take b_R_take 3 none
abbrev rm_R_take : Room := { frames := 1, cells := 0, slots := 0, locals := 20 }
theorem d_R_take_0 : decode b_R_take 0 = .ok (.aload_n 0, 1) := by decide +kernel
theorem d_R_take_1 : decode b_R_take 1 = .ok (.getfield 7, 3) := by decide +kernel
theorem d_R_take_4 : decode b_R_take 4 = .ok (.iload_n 1, 1) := by decide +kernel
theorem d_R_take_5 : decode b_R_take 5 = .ok (.invokestatic 52, 3) := by decide +kernel
theorem d_R_take_8 : decode b_R_take 8 = .ok (.iconst 1, 1) := by decide +kernel
theorem d_R_take_9 : decode b_R_take 9 = .ok (.iastore, 1) := by decide +kernel
theorem d_R_take_10 : decode b_R_take 10 = .ok (.iconst 0, 1) := by decide +kernel
theorem d_R_take_11 : decode b_R_take 11 = .ok (.istore_n 2, 1) := by decide +kernel
theorem d_R_take_12 : decode b_R_take 12 = .ok (.iload_n 2, 1) := by decide +kernel
theorem d_R_take_13 : decode b_R_take 13 = .ok (.bipush 8, 2) := by decide +kernel
theorem d_R_take_15 : decode b_R_take 15 = .ok (.if_icmp .ge 21, 3) := by decide +kernel
theorem d_R_take_18 : decode b_R_take 18 = .ok (.aload_n 0, 1) := by decide +kernel
theorem d_R_take_19 : decode b_R_take 19 = .ok (.getfield 7, 3) := by decide +kernel
theorem d_R_take_22 : decode b_R_take 22 = .ok (.bipush 30, 2) := by decide +kernel
theorem d_R_take_24 : decode b_R_take 24 = .ok (.iload_n 1, 1) := by decide +kernel
theorem d_R_take_25 : decode b_R_take 25 = .ok (.imul, 1) := by decide +kernel
theorem d_R_take_26 : decode b_R_take 26 = .ok (.iload_n 2, 1) := by decide +kernel
theorem d_R_take_27 : decode b_R_take 27 = .ok (.iadd, 1) := by decide +kernel
theorem d_R_take_28 : decode b_R_take 28 = .ok (.iconst 0, 1) := by decide +kernel
theorem d_R_take_29 : decode b_R_take 29 = .ok (.iastore, 1) := by decide +kernel
theorem d_R_take_30 : decode b_R_take 30 = .ok (.iinc 2 1, 3) := by decide +kernel
theorem d_R_take_33 : decode b_R_take 33 = .ok (.goto (-21), 3) := by decide +kernel
theorem d_R_take_36 : decode b_R_take 36 = .ok (.aload_n 0, 1) := by decide +kernel
theorem d_R_take_37 : decode b_R_take 37 = .ok (.getfield 16, 3) := by decide +kernel
theorem d_R_take_40 : decode b_R_take 40 = .ok (.iload_n 1, 1) := by decide +kernel
theorem d_R_take_41 : decode b_R_take 41 = .ok (.iconst 1, 1) := by decide +kernel
theorem d_R_take_42 : decode b_R_take 42 = .ok (.bastore, 1) := by decide +kernel
theorem d_R_take_43 : decode b_R_take 43 = .ok (.return_, 1) := by decide +kernel
abbrev b_R_enter : ByteArray := prog_4_method_15_code
abbrev y_R_enter : MethodName := ⟨"OrderedVolumeModel", "enter", "(III)V"⟩
abbrev o_R_enter : Cond := .code y_R_enter b_R_enter 6 none
abbrev rm_R_enter : Room := { frames := 2, cells := 0, slots := 0, locals := 45 }
theorem d_R_enter_0 : decode b_R_enter 0 = .ok (.aload_n 0, 1) := by decide +kernel
theorem d_R_enter_1 : decode b_R_enter 1 = .ok (.getfield 7, 3) := by decide +kernel
theorem d_R_enter_4 : decode b_R_enter 4 = .ok (.iload_n 1, 1) := by decide +kernel
theorem d_R_enter_5 : decode b_R_enter 5 = .ok (.iconst 2, 1) := by decide +kernel
theorem d_R_enter_6 : decode b_R_enter 6 = .ok (.invokestatic 44, 3) := by decide +kernel
theorem d_R_enter_9 : decode b_R_enter 9 = .ok (.iaload, 1) := by decide +kernel
theorem d_R_enter_10 : decode b_R_enter 10 = .ok (.istore 4, 2) := by decide +kernel
theorem d_R_enter_12 : decode b_R_enter 12 = .ok (.aload_n 0, 1) := by decide +kernel
theorem d_R_enter_13 : decode b_R_enter 13 = .ok (.iload_n 1, 1) := by decide +kernel
theorem d_R_enter_14 : decode b_R_enter 14 = .ok (.invokevirtual 72, 3) := by decide +kernel
theorem d_R_enter_17 : decode b_R_enter 17 = .ok (.istore 5, 2) := by decide +kernel
theorem d_R_enter_19 : decode b_R_enter 19 = .ok (.aload_n 0, 1) := by decide +kernel
theorem d_R_enter_20 : decode b_R_enter 20 = .ok (.getfield 7, 3) := by decide +kernel
theorem d_R_enter_23 : decode b_R_enter 23 = .ok (.bipush 30, 2) := by decide +kernel
theorem d_R_enter_25 : decode b_R_enter 25 = .ok (.iload 4, 2) := by decide +kernel
theorem d_R_enter_27 : decode b_R_enter 27 = .ok (.imul, 1) := by decide +kernel
theorem d_R_enter_28 : decode b_R_enter 28 = .ok (.iload 5, 2) := by decide +kernel
theorem d_R_enter_30 : decode b_R_enter 30 = .ok (.iadd, 1) := by decide +kernel
theorem d_R_enter_31 : decode b_R_enter 31 = .ok (.bipush 32, 2) := by decide +kernel
theorem d_R_enter_33 : decode b_R_enter 33 = .ok (.iload_n 2, 1) := by decide +kernel
theorem d_R_enter_34 : decode b_R_enter 34 = .ok (.imul, 1) := by decide +kernel
theorem d_R_enter_35 : decode b_R_enter 35 = .ok (.iload_n 3, 1) := by decide +kernel
theorem d_R_enter_36 : decode b_R_enter 36 = .ok (.iadd, 1) := by decide +kernel
theorem d_R_enter_37 : decode b_R_enter 37 = .ok (.iastore, 1) := by decide +kernel
theorem d_R_enter_38 : decode b_R_enter 38 = .ok (.aload_n 0, 1) := by decide +kernel
theorem d_R_enter_39 : decode b_R_enter 39 = .ok (.getfield 20, 3) := by decide +kernel
theorem d_R_enter_42 : decode b_R_enter 42 = .ok (.bipush 8, 2) := by decide +kernel
theorem d_R_enter_44 : decode b_R_enter 44 = .ok (.iload 4, 2) := by decide +kernel
theorem d_R_enter_46 : decode b_R_enter 46 = .ok (.imul, 1) := by decide +kernel
theorem d_R_enter_47 : decode b_R_enter 47 = .ok (.iload 5, 2) := by decide +kernel
theorem d_R_enter_49 : decode b_R_enter 49 = .ok (.iadd, 1) := by decide +kernel
theorem d_R_enter_50 : decode b_R_enter 50 = .ok (.iconst 1, 1) := by decide +kernel
theorem d_R_enter_51 : decode b_R_enter 51 = .ok (.bastore, 1) := by decide +kernel
theorem d_R_enter_52 : decode b_R_enter 52 = .ok (.aload_n 0, 1) := by decide +kernel
theorem d_R_enter_53 : decode b_R_enter 53 = .ok (.getfield 7, 3) := by decide +kernel
theorem d_R_enter_56 : decode b_R_enter 56 = .ok (.iload_n 3, 1) := by decide +kernel
theorem d_R_enter_57 : decode b_R_enter 57 = .ok (.iconst 1, 1) := by decide +kernel
theorem d_R_enter_58 : decode b_R_enter 58 = .ok (.invokestatic 44, 3) := by decide +kernel
theorem d_R_enter_61 : decode b_R_enter 61 = .ok (.dup2, 1) := by decide +kernel
theorem d_R_enter_62 : decode b_R_enter 62 = .ok (.iaload, 1) := by decide +kernel
theorem d_R_enter_63 : decode b_R_enter 63 = .ok (.iconst 1, 1) := by decide +kernel
theorem d_R_enter_64 : decode b_R_enter 64 = .ok (.iadd, 1) := by decide +kernel
theorem d_R_enter_65 : decode b_R_enter 65 = .ok (.iastore, 1) := by decide +kernel
theorem d_R_enter_66 : decode b_R_enter 66 = .ok (.return_, 1) := by decide +kernel
abbrev b_R_create : ByteArray := prog_4_method_30_code
abbrev y_R_create : MethodName := ⟨"OrderedVolumeModel", "create", "(IIZ)I"⟩
abbrev o_R_create : Cond := .code y_R_create b_R_create 6 (some .int)
abbrev rm_R_create : Room := { frames := 8, cells := 0, slots := 0, locals := 189 }
theorem d_R_create_0 : decode b_R_create 0 = .ok (.iload_n 2, 1) := by decide +kernel
theorem d_R_create_1 : decode b_R_create 1 = .ok (.invokestatic 106, 3) := by decide +kernel
theorem d_R_create_4 : decode b_R_create 4 = .ok (.ifCond .eq 12, 3) := by decide +kernel
theorem d_R_create_7 : decode b_R_create 7 = .ok (.aload_n 0, 1) := by decide +kernel
theorem d_R_create_8 : decode b_R_create 8 = .ok (.iload_n 1, 1) := by decide +kernel
theorem d_R_create_9 : decode b_R_create 9 = .ok (.iconst 2, 1) := by decide +kernel
theorem d_R_create_10 : decode b_R_create 10 = .ok (.invokevirtual 109, 3) := by decide +kernel
theorem d_R_create_13 : decode b_R_create 13 = .ok (.ifCond .ne 5, 3) := by decide +kernel
theorem d_R_create_16 : decode b_R_create 16 = .ok (.iconst (-1), 1) := by decide +kernel
theorem d_R_create_17 : decode b_R_create 17 = .ok (.ireturn, 1) := by decide +kernel
theorem d_R_create_18 : decode b_R_create 18 = .ok (.aload_n 0, 1) := by decide +kernel
theorem d_R_create_19 : decode b_R_create 19 = .ok (.iload_n 1, 1) := by decide +kernel
theorem d_R_create_20 : decode b_R_create 20 = .ok (.iload_n 2, 1) := by decide +kernel
theorem d_R_create_21 : decode b_R_create 21 = .ok (.invokevirtual 113, 3) := by decide +kernel
theorem d_R_create_24 : decode b_R_create 24 = .ok (.ifCond .lt 6, 3) := by decide +kernel
theorem d_R_create_27 : decode b_R_create 27 = .ok (.bipush (-2), 2) := by decide +kernel
theorem d_R_create_29 : decode b_R_create 29 = .ok (.ireturn, 1) := by decide +kernel
theorem d_R_create_30 : decode b_R_create 30 = .ok (.aload_n 0, 1) := by decide +kernel
theorem d_R_create_31 : decode b_R_create 31 = .ok (.iload_n 1, 1) := by decide +kernel
theorem d_R_create_32 : decode b_R_create 32 = .ok (.invokevirtual 116, 3) := by decide +kernel
theorem d_R_create_35 : decode b_R_create 35 = .ok (.bipush 8, 2) := by decide +kernel
theorem d_R_create_37 : decode b_R_create 37 = .ok (.if_icmp .ne 6, 3) := by decide +kernel
theorem d_R_create_40 : decode b_R_create 40 = .ok (.bipush (-3), 2) := by decide +kernel
theorem d_R_create_42 : decode b_R_create 42 = .ok (.ireturn, 1) := by decide +kernel
theorem d_R_create_43 : decode b_R_create 43 = .ok (.aload_n 0, 1) := by decide +kernel
theorem d_R_create_44 : decode b_R_create 44 = .ok (.iload_n 1, 1) := by decide +kernel
theorem d_R_create_45 : decode b_R_create 45 = .ok (.iload_n 3, 1) := by decide +kernel
theorem d_R_create_46 : decode b_R_create 46 = .ok (.invokevirtual 119, 3) := by decide +kernel
theorem d_R_create_49 : decode b_R_create 49 = .ok (.ifCond .ne 8, 3) := by decide +kernel
theorem d_R_create_52 : decode b_R_create 52 = .ok (.aload_n 0, 1) := by decide +kernel
theorem d_R_create_53 : decode b_R_create 53 = .ok (.invokevirtual 123, 3) := by decide +kernel
theorem d_R_create_56 : decode b_R_create 56 = .ok (.pop, 1) := by decide +kernel
theorem d_R_create_57 : decode b_R_create 57 = .ok (.aload_n 0, 1) := by decide +kernel
theorem d_R_create_58 : decode b_R_create 58 = .ok (.iload_n 1, 1) := by decide +kernel
theorem d_R_create_59 : decode b_R_create 59 = .ok (.iload_n 3, 1) := by decide +kernel
theorem d_R_create_60 : decode b_R_create 60 = .ok (.invokevirtual 119, 3) := by decide +kernel
theorem d_R_create_63 : decode b_R_create 63 = .ok (.ifCond .ne 6, 3) := by decide +kernel
theorem d_R_create_66 : decode b_R_create 66 = .ok (.bipush (-3), 2) := by decide +kernel
theorem d_R_create_68 : decode b_R_create 68 = .ok (.ireturn, 1) := by decide +kernel
theorem d_R_create_69 : decode b_R_create 69 = .ok (.aload_n 0, 1) := by decide +kernel
theorem d_R_create_70 : decode b_R_create 70 = .ok (.iload_n 1, 1) := by decide +kernel
theorem d_R_create_71 : decode b_R_create 71 = .ok (.iload_n 3, 1) := by decide +kernel
theorem d_R_create_72 : decode b_R_create 72 = .ok (.invokevirtual 102, 3) := by decide +kernel
theorem d_R_create_75 : decode b_R_create 75 = .ok (.istore 4, 2) := by decide +kernel
theorem d_R_create_77 : decode b_R_create 77 = .ok (.aload_n 0, 1) := by decide +kernel
theorem d_R_create_78 : decode b_R_create 78 = .ok (.getfield 7, 3) := by decide +kernel
theorem d_R_create_81 : decode b_R_create 81 = .ok (.iload 4, 2) := by decide +kernel
theorem d_R_create_83 : decode b_R_create 83 = .ok (.invokestatic 48, 3) := by decide +kernel
theorem d_R_create_86 : decode b_R_create 86 = .ok (.iconst 1, 1) := by decide +kernel
theorem d_R_create_87 : decode b_R_create 87 = .ok (.iastore, 1) := by decide +kernel
theorem d_R_create_88 : decode b_R_create 88 = .ok (.aload_n 0, 1) := by decide +kernel
theorem d_R_create_89 : decode b_R_create 89 = .ok (.getfield 7, 3) := by decide +kernel
theorem d_R_create_92 : decode b_R_create 92 = .ok (.iload 4, 2) := by decide +kernel
theorem d_R_create_94 : decode b_R_create 94 = .ok (.iconst 0, 1) := by decide +kernel
theorem d_R_create_95 : decode b_R_create 95 = .ok (.invokestatic 44, 3) := by decide +kernel
theorem d_R_create_98 : decode b_R_create 98 = .ok (.iload_n 3, 1) := by decide +kernel
theorem d_R_create_99 : decode b_R_create 99 = .ok (.ifCond .eq 7, 3) := by decide +kernel
theorem d_R_create_102 : decode b_R_create 102 = .ok (.iconst 2, 1) := by decide +kernel
theorem d_R_create_103 : decode b_R_create 103 = .ok (.goto 4, 3) := by decide +kernel
theorem d_R_create_106 : decode b_R_create 106 = .ok (.iconst 1, 1) := by decide +kernel
theorem d_R_create_107 : decode b_R_create 107 = .ok (.iastore, 1) := by decide +kernel
theorem d_R_create_108 : decode b_R_create 108 = .ok (.iconst 1, 1) := by decide +kernel
theorem d_R_create_109 : decode b_R_create 109 = .ok (.istore 5, 2) := by decide +kernel
theorem d_R_create_111 : decode b_R_create 111 = .ok (.iload 5, 2) := by decide +kernel
theorem d_R_create_113 : decode b_R_create 113 = .ok (.iconst 5, 1) := by decide +kernel
theorem d_R_create_114 : decode b_R_create 114 = .ok (.if_icmp .ge 22, 3) := by decide +kernel
theorem d_R_create_117 : decode b_R_create 117 = .ok (.aload_n 0, 1) := by decide +kernel
theorem d_R_create_118 : decode b_R_create 118 = .ok (.getfield 7, 3) := by decide +kernel
theorem d_R_create_121 : decode b_R_create 121 = .ok (.iload 4, 2) := by decide +kernel
theorem d_R_create_123 : decode b_R_create 123 = .ok (.iload 5, 2) := by decide +kernel
theorem d_R_create_125 : decode b_R_create 125 = .ok (.invokestatic 44, 3) := by decide +kernel
theorem d_R_create_128 : decode b_R_create 128 = .ok (.iconst 0, 1) := by decide +kernel
theorem d_R_create_129 : decode b_R_create 129 = .ok (.iastore, 1) := by decide +kernel
theorem d_R_create_130 : decode b_R_create 130 = .ok (.iinc 5 1, 3) := by decide +kernel
theorem d_R_create_133 : decode b_R_create 133 = .ok (.goto (-22), 3) := by decide +kernel
theorem d_R_create_136 : decode b_R_create 136 = .ok (.iload_n 3, 1) := by decide +kernel
theorem d_R_create_137 : decode b_R_create 137 = .ok (.ifCond .eq 33, 3) := by decide +kernel
theorem d_R_create_140 : decode b_R_create 140 = .ok (.aload_n 0, 1) := by decide +kernel
theorem d_R_create_141 : decode b_R_create 141 = .ok (.iload 4, 2) := by decide +kernel
theorem d_R_create_143 : decode b_R_create 143 = .ok (.bipush 6, 2) := by decide +kernel
theorem d_R_create_145 : decode b_R_create 145 = .ok (.idiv, 1) := by decide +kernel
theorem d_R_create_146 : decode b_R_create 146 = .ok (.invokevirtual 99, 3) := by decide +kernel
theorem d_R_create_149 : decode b_R_create 149 = .ok (.istore 5, 2) := by decide +kernel
theorem d_R_create_151 : decode b_R_create 151 = .ok (.aload_n 0, 1) := by decide +kernel
theorem d_R_create_152 : decode b_R_create 152 = .ok (.iload 5, 2) := by decide +kernel
theorem d_R_create_154 : decode b_R_create 154 = .ok (.invokevirtual 127, 3) := by decide +kernel
theorem d_R_create_157 : decode b_R_create 157 = .ok (.aload_n 0, 1) := by decide +kernel
theorem d_R_create_158 : decode b_R_create 158 = .ok (.getfield 7, 3) := by decide +kernel
theorem d_R_create_161 : decode b_R_create 161 = .ok (.iload 4, 2) := by decide +kernel
theorem d_R_create_163 : decode b_R_create 163 = .ok (.iconst 2, 1) := by decide +kernel
theorem d_R_create_164 : decode b_R_create 164 = .ok (.invokestatic 44, 3) := by decide +kernel
theorem d_R_create_167 : decode b_R_create 167 = .ok (.iload 5, 2) := by decide +kernel
theorem d_R_create_169 : decode b_R_create 169 = .ok (.iastore, 1) := by decide +kernel
theorem d_R_create_170 : decode b_R_create 170 = .ok (.aload_n 0, 1) := by decide +kernel
theorem d_R_create_171 : decode b_R_create 171 = .ok (.iload_n 1, 1) := by decide +kernel
theorem d_R_create_172 : decode b_R_create 172 = .ok (.iload_n 2, 1) := by decide +kernel
theorem d_R_create_173 : decode b_R_create 173 = .ok (.iload 4, 2) := by decide +kernel
theorem d_R_create_175 : decode b_R_create 175 = .ok (.invokevirtual 130, 3) := by decide +kernel
theorem d_R_create_178 : decode b_R_create 178 = .ok (.iload 4, 2) := by decide +kernel
theorem d_R_create_180 : decode b_R_create 180 = .ok (.ireturn, 1) := by decide +kernel
abbrev b_R_cut : ByteArray := prog_4_method_36_code
abbrev y_R_cut : MethodName := ⟨"OrderedVolumeModel", "cut", "(II)I"⟩
abbrev o_R_cut : Cond := .code y_R_cut b_R_cut 5 (some .int)
abbrev rm_R_cut : Room := { frames := 5, cells := 0, slots := 0, locals := 118 }
theorem d_R_cut_0 : decode b_R_cut 0 = .ok (.iload_n 2, 1) := by decide +kernel
theorem d_R_cut_1 : decode b_R_cut 1 = .ok (.ifCond .lt 17, 3) := by decide +kernel
theorem d_R_cut_4 : decode b_R_cut 4 = .ok (.iload_n 2, 1) := by decide +kernel
theorem d_R_cut_5 : decode b_R_cut 5 = .ok (.iconst 3, 1) := by decide +kernel
theorem d_R_cut_6 : decode b_R_cut 6 = .ok (.if_icmp .gt 12, 3) := by decide +kernel
theorem d_R_cut_9 : decode b_R_cut 9 = .ok (.aload_n 0, 1) := by decide +kernel
theorem d_R_cut_10 : decode b_R_cut 10 = .ok (.iload_n 1, 1) := by decide +kernel
theorem d_R_cut_11 : decode b_R_cut 11 = .ok (.iconst 1, 1) := by decide +kernel
theorem d_R_cut_12 : decode b_R_cut 12 = .ok (.invokevirtual 109, 3) := by decide +kernel
theorem d_R_cut_15 : decode b_R_cut 15 = .ok (.ifCond .ne 5, 3) := by decide +kernel
theorem d_R_cut_18 : decode b_R_cut 18 = .ok (.iconst (-1), 1) := by decide +kernel
theorem d_R_cut_19 : decode b_R_cut 19 = .ok (.ireturn, 1) := by decide +kernel
theorem d_R_cut_20 : decode b_R_cut 20 = .ok (.iconst 0, 1) := by decide +kernel
theorem d_R_cut_21 : decode b_R_cut 21 = .ok (.istore_n 3, 1) := by decide +kernel
theorem d_R_cut_22 : decode b_R_cut 22 = .ok (.iload_n 2, 1) := by decide +kernel
theorem d_R_cut_23 : decode b_R_cut 23 = .ok (.istore 4, 2) := by decide +kernel
theorem d_R_cut_25 : decode b_R_cut 25 = .ok (.iload 4, 2) := by decide +kernel
theorem d_R_cut_27 : decode b_R_cut 27 = .ok (.iconst 3, 1) := by decide +kernel
theorem d_R_cut_28 : decode b_R_cut 28 = .ok (.if_icmp .ge 19, 3) := by decide +kernel
theorem d_R_cut_31 : decode b_R_cut 31 = .ok (.iload_n 3, 1) := by decide +kernel
theorem d_R_cut_32 : decode b_R_cut 32 = .ok (.aload_n 0, 1) := by decide +kernel
theorem d_R_cut_33 : decode b_R_cut 33 = .ok (.iload_n 1, 1) := by decide +kernel
theorem d_R_cut_34 : decode b_R_cut 34 = .ok (.iload 4, 2) := by decide +kernel
theorem d_R_cut_36 : decode b_R_cut 36 = .ok (.invokevirtual 82, 3) := by decide +kernel
theorem d_R_cut_39 : decode b_R_cut 39 = .ok (.iadd, 1) := by decide +kernel
theorem d_R_cut_40 : decode b_R_cut 40 = .ok (.istore_n 3, 1) := by decide +kernel
theorem d_R_cut_41 : decode b_R_cut 41 = .ok (.iinc 4 1, 3) := by decide +kernel
theorem d_R_cut_44 : decode b_R_cut 44 = .ok (.goto (-19), 3) := by decide +kernel
theorem d_R_cut_47 : decode b_R_cut 47 = .ok (.aload_n 0, 1) := by decide +kernel
theorem d_R_cut_48 : decode b_R_cut 48 = .ok (.invokevirtual 79, 3) := by decide +kernel
theorem d_R_cut_51 : decode b_R_cut 51 = .ok (.iload_n 3, 1) := by decide +kernel
theorem d_R_cut_52 : decode b_R_cut 52 = .ok (.ireturn, 1) := by decide +kernel
