theorem e_s_R_spread_onDisk_108 : @s_R_spread_onDisk_108 = @s_R_spread_inMemory_108 := by
  delta s_R_spread_onDisk_108 s_R_spread_inMemory_108
  rfl
theorem e_s_R_spread_onDisk_73 : @s_R_spread_onDisk_73 = @s_R_spread_inMemory_73 := by
  funext F mem dsk fresh n
  induction n with
  | zero => rfl
  | succ n ih =>
    funext a0 a1 a2 a3
    simp only [s_R_spread_onDisk_73, s_R_spread_inMemory_73, ih, e_s_R_spread_onDisk_108]
theorem e_s_R_spread_onDisk_56 : @s_R_spread_onDisk_56 = @s_R_spread_inMemory_56 := by
  delta s_R_spread_onDisk_56 s_R_spread_inMemory_56
  rw [e_s_R_spread_onDisk_73]
theorem e_s_R_spread_onDisk_27 : @s_R_spread_onDisk_27 = @s_R_spread_inMemory_27 := by
  delta s_R_spread_onDisk_27 s_R_spread_inMemory_27
  rw [e_s_R_spread_onDisk_56]
theorem e_s_R_spread_onDisk : @s_R_spread_onDisk = @s_R_spread_inMemory := by
  delta s_R_spread_onDisk s_R_spread_inMemory
  rw [e_s_R_spread_onDisk_27]
theorem e_s_R_below_onDisk_11 : @s_R_below_onDisk_11 = @s_R_below_inMemory_11 := by
  funext F mem dsk fresh k2 n
  induction n with
  | zero => rfl
  | succ n ih =>
    funext a0 a1 a2 a3
    simp only [s_R_below_onDisk_11, s_R_below_inMemory_11, ih, e_s_R_spread_onDisk]
theorem e_s_R_below_onDisk_2 : @s_R_below_onDisk_2 = @s_R_below_inMemory_2 := by
  funext F mem dsk fresh n
  induction n with
  | zero => rfl
  | succ n ih =>
    funext a0 a1 a2
    simp only [s_R_below_onDisk_2, s_R_below_inMemory_2, ih, e_s_R_below_onDisk_11]
theorem e_s_R_below_onDisk : @s_R_below_onDisk = @s_R_below_inMemory := by
  delta s_R_below_onDisk s_R_below_inMemory
  rw [e_s_R_below_onDisk_2]
theorem e_s_R_tree_onDisk_19 : @s_R_tree_onDisk_19 = @s_R_tree_inMemory_19 := by
  delta s_R_tree_onDisk_19 s_R_tree_inMemory_19
  rfl
theorem e_s_R_tree_onDisk_2 : @s_R_tree_onDisk_2 = @s_R_tree_inMemory_2 := by
  funext F mem dsk fresh n
  induction n with
  | zero => rfl
  | succ n ih =>
    funext a0 a1 a2
    simp only [s_R_tree_onDisk_2, s_R_tree_inMemory_2, ih, e_s_R_tree_onDisk_19, e_s_R_below_onDisk]
theorem e_s_R_tree_onDisk : @s_R_tree_onDisk = @s_R_tree_inMemory := by
  delta s_R_tree_onDisk s_R_tree_inMemory
  rw [e_s_R_tree_onDisk_2]
theorem e_s_R_spread_then_108 : @s_R_spread_then_108 = @s_R_spread_inMemory_108 := by
  delta s_R_spread_then_108 s_R_spread_inMemory_108
  rfl
theorem e_s_R_spread_then_73 : @s_R_spread_then_73 = @s_R_spread_inMemory_73 := by
  funext F mem dsk fresh n
  induction n with
  | zero => rfl
  | succ n ih =>
    funext a0 a1 a2 a3
    simp only [s_R_spread_then_73, s_R_spread_inMemory_73, ih, e_s_R_spread_then_108]
theorem e_s_R_spread_then_56 : @s_R_spread_then_56 = @s_R_spread_inMemory_56 := by
  delta s_R_spread_then_56 s_R_spread_inMemory_56
  rw [e_s_R_spread_then_73]
theorem e_s_R_spread_then_27 : @s_R_spread_then_27 = @s_R_spread_inMemory_27 := by
  delta s_R_spread_then_27 s_R_spread_inMemory_27
  rw [e_s_R_spread_then_56]
theorem e_s_R_spread_then : @s_R_spread_then = @s_R_spread_inMemory := by
  delta s_R_spread_then s_R_spread_inMemory
  rw [e_s_R_spread_then_27]
theorem e_s_R_below_then_11 : @s_R_below_then_11 = @s_R_below_inMemory_11 := by
  funext F mem dsk fresh k2 n
  induction n with
  | zero => rfl
  | succ n ih =>
    funext a0 a1 a2 a3
    simp only [s_R_below_then_11, s_R_below_inMemory_11, ih, e_s_R_spread_then]
theorem e_s_R_below_then_2 : @s_R_below_then_2 = @s_R_below_inMemory_2 := by
  funext F mem dsk fresh n
  induction n with
  | zero => rfl
  | succ n ih =>
    funext a0 a1 a2
    simp only [s_R_below_then_2, s_R_below_inMemory_2, ih, e_s_R_below_then_11]
theorem e_s_R_below_then : @s_R_below_then = @s_R_below_inMemory := by
  delta s_R_below_then s_R_below_inMemory
  rw [e_s_R_below_then_2]
theorem e_s_R_tree_then_19 : @s_R_tree_then_19 = @s_R_tree_inMemory_19 := by
  delta s_R_tree_then_19 s_R_tree_inMemory_19
  rfl
theorem e_s_R_tree_then_2 : @s_R_tree_then_2 = @s_R_tree_inMemory_2 := by
  funext F mem dsk fresh n
  induction n with
  | zero => rfl
  | succ n ih =>
    funext a0 a1 a2
    simp only [s_R_tree_then_2, s_R_tree_inMemory_2, ih, e_s_R_tree_then_19, e_s_R_below_then]
theorem e_s_R_tree_then : @s_R_tree_then = @s_R_tree_inMemory := by
  delta s_R_tree_then s_R_tree_inMemory
  rw [e_s_R_tree_then_2]
theorem e_s_R_entriesFor_inMemory_154 : @s_R_entriesFor_inMemory_154 = @s_R_entriesFor_onDisk_154 := by
  delta s_R_entriesFor_inMemory_154 s_R_entriesFor_onDisk_154
  rfl
theorem e_s_R_entriesFor_inMemory_131 : @s_R_entriesFor_inMemory_131 = @s_R_entriesFor_onDisk_131 := by
  delta s_R_entriesFor_inMemory_131 s_R_entriesFor_onDisk_131
  rw [e_s_R_entriesFor_inMemory_154]
theorem e_s_R_entriesFor_inMemory_78 : @s_R_entriesFor_inMemory_78 = @s_R_entriesFor_onDisk_78 := by
  funext F mem dsk fresh inMemory k6 n
  induction n with
  | zero => rfl
  | succ n ih =>
    funext a0 a1 a2 a3 a4 a5 a6
    simp only [s_R_entriesFor_inMemory_78, s_R_entriesFor_onDisk_78, ih, e_s_R_entriesFor_inMemory_131]
theorem e_s_R_entriesFor_inMemory_73 : @s_R_entriesFor_inMemory_73 = @s_R_entriesFor_onDisk_73 := by
  delta s_R_entriesFor_inMemory_73 s_R_entriesFor_onDisk_73
  rw [e_s_R_entriesFor_inMemory_78]
theorem e_s_R_entriesFor_inMemory_42 : @s_R_entriesFor_inMemory_42 = @s_R_entriesFor_onDisk_42 := by
  delta s_R_entriesFor_inMemory_42 s_R_entriesFor_onDisk_42
  rw [e_s_R_entriesFor_inMemory_73]
theorem e_s_R_entriesFor_inMemory_6 : @s_R_entriesFor_inMemory_6 = @s_R_entriesFor_onDisk_6 := by
  funext F mem dsk fresh inMemory n
  induction n with
  | zero => rfl
  | succ n ih =>
    funext a0 a1 a2 a3
    simp only [s_R_entriesFor_inMemory_6, s_R_entriesFor_onDisk_6, ih, e_s_R_entriesFor_inMemory_42]
theorem e_s_R_entriesFor_inMemory : @s_R_entriesFor_inMemory = @s_R_entriesFor_onDisk := by
  delta s_R_entriesFor_inMemory s_R_entriesFor_onDisk
  rw [e_s_R_entriesFor_inMemory_6]
theorem e_s_R_pointersTo_inMemory_60 : @s_R_pointersTo_inMemory_60 = @s_R_pointersTo_onDisk_60 := by
  delta s_R_pointersTo_inMemory_60 s_R_pointersTo_onDisk_60
  rfl
theorem e_s_R_pointersTo_inMemory_16 : @s_R_pointersTo_inMemory_16 = @s_R_pointersTo_onDisk_16 := by
  funext F mem dsk inMemory k6 n
  induction n with
  | zero => rfl
  | succ n ih =>
    funext a0 a1 a2 a3 a4
    simp only [s_R_pointersTo_inMemory_16, s_R_pointersTo_onDisk_16, ih, e_s_R_pointersTo_inMemory_60]
theorem e_s_R_pointersTo_inMemory_6 : @s_R_pointersTo_inMemory_6 = @s_R_pointersTo_onDisk_6 := by
  funext F mem dsk inMemory n
  induction n with
  | zero => rfl
  | succ n ih =>
    funext a0 a1 a2 a3
    simp only [s_R_pointersTo_inMemory_6, s_R_pointersTo_onDisk_6, ih, e_s_R_pointersTo_inMemory_16]
theorem e_s_R_pointersTo_inMemory : @s_R_pointersTo_inMemory = @s_R_pointersTo_onDisk := by
  delta s_R_pointersTo_inMemory s_R_pointersTo_onDisk
  rw [e_s_R_pointersTo_inMemory_6]
