set_option maxHeartbeats 4000000 in
set_option maxRecDepth 100000 in
theorem w_R_entriesFor_onDisk_6 {p : Program} {l : Launch} {e : Env} {s : State} {m : MethodId} {args : Array Value} {below : List Frame} {meth : Method} {c : Code} {D : va_G} {cI cZ : ClassId} {A : Nat → Prop} (h_p0 h_p0_m h_p0_d h_p0_fresh h_p0_young h_p0_dropped h_p0_released h_p0_owed h_p0_counted h_p0_inMemory h_p0_onDisk h_p0_thn : Nat) (F : Nat) (mem : (Nat → Int32)) (dsk : (Nat → Int32)) (fresh : (Nat → Int32)) (young : (Nat → Int32)) (dropped : (Nat → Int32)) (released : (Nat → Int32)) (owed : (Nat → Int32)) (counted : (Nat → Int32)) (inMemory : (Nat → Int32)) (onDisk : (Nat → Int32)) (thn : (Nat → Int32)) (moved : Int32) (r : Int32) (cx : cx_ok p s m args meth c b_R_entriesFor 10 o_R_entriesFor "OrderedVolumeModel" (some .int) D cI cZ A) : ∀ (n : Nat) (x1 : Int32) (x3 : Int32) (x4 : Int32) (x5 : Int32), s_R_entriesFor_onDisk_6 F mem dsk fresh onDisk n x1 x3 x4 x5 = some r → wk_G p l e rm_R_entriesFor s m args below meth c (sc_Qi below args s D cI cZ A (w_R cI cZ h_p0 h_p0_m h_p0_d h_p0_fresh h_p0_young h_p0_dropped h_p0_released h_p0_owed h_p0_counted h_p0_inMemory h_p0_onDisk h_p0_thn mem dsk fresh young dropped released owed counted inMemory onDisk thn moved) r) D A 10 6 [] [(0, .ref h_p0), (2, .ref h_p0_onDisk), (1, .int x1), (3, .int x3), (4, .int x4), (5, .int x5)] (w_R cI cZ h_p0 h_p0_m h_p0_d h_p0_fresh h_p0_young h_p0_dropped h_p0_released h_p0_owed h_p0_counted h_p0_inMemory h_p0_onDisk h_p0_thn mem dsk fresh young dropped released owed counted inMemory onDisk thn moved) := by
  obtain ⟨cf, hr, hlk, hK, hN, hA⟩ := cx
  have hx := cf.1
  have hb := cf.2.1
  have hown := cf.2.2.2.1
  have ht : ∀ w ∈ wA, w.before args s = true := fun w h => cf.2.2.2.2 w (List.mem_cons_of_mem _ h)
  intro n
  induction n with
  | zero => intro x1 x3 x4 x5 h; cases (show (none : Option (Int32)) = some _ from h)
  | succ n ih =>
    intro x1 x3 x4 x5 h H locs ls hl hP hD hS
    unfold s_R_entriesFor_onDisk_6 at h
    refine lv_iload hx hb d_R_entriesFor_6 (lv_at hl 5 rfl) ?_
    refine lv_bipush (v := (nI 18)) hx hb d_R_entriesFor_8 (by decide) ?_
    refine lv_icmp_ge hx hb d_R_entriesFor_10 rfl (fun hc => ?_) (fun hc => ?_)
    · rw [if_pos hc] at h
      refine lv_iload hx hb d_R_entriesFor_170 (lv_at hl 4 rfl) ?_
      cases h
      exact sc_iret cf hr hlk hK hP hD hS d_R_entriesFor_172
    · rw [if_neg hc] at h
      refine lv_iload_n hx hb d_R_entriesFor_13 rfl (lv_at hl 2 rfl) ?_
      refine lv_if_eq hx hb d_R_entriesFor_14 rfl (fun hc => ?_) (fun hc => ?_)
      · rw [if_pos hc] at h
        refine lv_aload_n hx hb d_R_entriesFor_31 rfl (lv_at hl 0 rfl) ?_
        refine va_get (D := D) (ci := 2) (v := .ref h_p0_m) (C := R_R) (T := F_R) (N := 12) hx hb ht in_R hown hK hP 0 rfl rfl 0 (by decide) (ht _ f_R_7) (fun _ h9 => h9) rfl d_R_entriesFor_32 ?_
        refine lv_iload hx hb d_R_entriesFor_35 (lv_at hl 5 rfl) ?_
        refine lv_iconst (v := (nI 0)) hx hb d_R_entriesFor_37 (by decide) ?_
        obtain ⟨r38, h38, h⟩ := bd_some h
        refine wk_Si (As := [.int x5, .int (nI 0)]) (rest := [.ref h_p0_m]) (wc := []) (w1 := []) (wr := [(h_p0, .inr (2, [.ref h_p0_m, .ref h_p0_d, .ref h_p0_fresh, .ref h_p0_young, .ref h_p0_dropped, .ref h_p0_released, .ref h_p0_owed, .ref h_p0_counted, .ref h_p0_inMemory, .ref h_p0_onDisk, .ref h_p0_thn, .int moved])), (h_p0_m, .inl (cI, 1080, .inl mem)), (h_p0_d, .inl (cI, 1080, .inl dsk)), (h_p0_fresh, .inl (cZ, 36, .inl fresh)), (h_p0_young, .inl (cZ, 288, .inl young)), (h_p0_dropped, .inl (cI, 36, .inl dropped)), (h_p0_released, .inl (cZ, 18, .inl released)), (h_p0_owed, .inl (cI, 18, .inl owed)), (h_p0_counted, .inl (cI, 18, .inl counted)), (h_p0_inMemory, .inl (cZ, 18, .inl inMemory)), (h_p0_onDisk, .inl (cZ, 18, .inl onDisk)), (h_p0_thn, .inl (cZ, 18, .inl thn))]) (wz := (w_R cI cZ h_p0 h_p0_m h_p0_d h_p0_fresh h_p0_young h_p0_dropped h_p0_released h_p0_owed h_p0_counted h_p0_inMemory h_p0_onDisk h_p0_thn mem dsk fresh young dropped released owed counted inMemory onDisk thn moved)) cf hK hN hA (c_R_at l D cI cZ 0 x5 (nI 0) r38 h38) k_R_44 ⟨rfl, rfl, by decide, by decide⟩ hl hP hD hS [] [0, 1, 2, 3, 4, 5, 6, 7, 8, 9, 10, 11] [0, 1, 2, 3, 4, 5, 6, 7, 8, 9, 10, 11] rfl rfl rfl (by decide) rfl rfl rfl rfl rfl (Nat.le_of_ble_eq_true rfl) rfl d_R_entriesFor_38 (fun H locs hP hD hS => ?_)
        obtain ⟨hin, h⟩ := gr_some h
        refine va_iald hx hb hK hP 1 0 rfl rfl hin d_R_entriesFor_41 ?_
        generalize mem r38.toNatClampNeg = v41 at h ⊢
        exact w_R_entriesFor_onDisk_42 h_p0 h_p0_m h_p0_d h_p0_fresh h_p0_young h_p0_dropped h_p0_released h_p0_owed h_p0_counted h_p0_inMemory h_p0_onDisk h_p0_thn F mem dsk fresh young dropped released owed counted inMemory onDisk thn moved r _ ⟨cf, hr, hlk, hK, hN, hA⟩ ih x1 x3 x4 x5 v41 h H locs ls (lv_sub hl [0, 1, 2, 3, 4, 5] rfl) hP hD hS
      · rw [if_neg hc] at h
        refine lv_aload_n hx hb d_R_entriesFor_17 rfl (lv_at hl 0 rfl) ?_
        refine va_get (D := D) (ci := 2) (v := .ref h_p0_d) (C := R_R) (T := F_R) (N := 12) hx hb ht in_R hown hK hP 0 rfl rfl 1 (by decide) (ht _ f_R_13) (fun _ h9 => h9) rfl d_R_entriesFor_18 ?_
        refine lv_iload hx hb d_R_entriesFor_21 (lv_at hl 5 rfl) ?_
        refine lv_iconst (v := (nI 0)) hx hb d_R_entriesFor_23 (by decide) ?_
        obtain ⟨r24, h24, h⟩ := bd_some h
        refine wk_Si (As := [.int x5, .int (nI 0)]) (rest := [.ref h_p0_d]) (wc := []) (w1 := []) (wr := [(h_p0, .inr (2, [.ref h_p0_m, .ref h_p0_d, .ref h_p0_fresh, .ref h_p0_young, .ref h_p0_dropped, .ref h_p0_released, .ref h_p0_owed, .ref h_p0_counted, .ref h_p0_inMemory, .ref h_p0_onDisk, .ref h_p0_thn, .int moved])), (h_p0_m, .inl (cI, 1080, .inl mem)), (h_p0_d, .inl (cI, 1080, .inl dsk)), (h_p0_fresh, .inl (cZ, 36, .inl fresh)), (h_p0_young, .inl (cZ, 288, .inl young)), (h_p0_dropped, .inl (cI, 36, .inl dropped)), (h_p0_released, .inl (cZ, 18, .inl released)), (h_p0_owed, .inl (cI, 18, .inl owed)), (h_p0_counted, .inl (cI, 18, .inl counted)), (h_p0_inMemory, .inl (cZ, 18, .inl inMemory)), (h_p0_onDisk, .inl (cZ, 18, .inl onDisk)), (h_p0_thn, .inl (cZ, 18, .inl thn))]) (wz := (w_R cI cZ h_p0 h_p0_m h_p0_d h_p0_fresh h_p0_young h_p0_dropped h_p0_released h_p0_owed h_p0_counted h_p0_inMemory h_p0_onDisk h_p0_thn mem dsk fresh young dropped released owed counted inMemory onDisk thn moved)) cf hK hN hA (c_R_at l D cI cZ 0 x5 (nI 0) r24 h24) k_R_44 ⟨rfl, rfl, by decide, by decide⟩ hl hP hD hS [] [0, 1, 2, 3, 4, 5, 6, 7, 8, 9, 10, 11] [0, 1, 2, 3, 4, 5, 6, 7, 8, 9, 10, 11] rfl rfl rfl (by decide) rfl rfl rfl rfl rfl (Nat.le_of_ble_eq_true rfl) rfl d_R_entriesFor_24 (fun H locs hP hD hS => ?_)
        obtain ⟨hin, h⟩ := gr_some h
        refine va_iald hx hb hK hP 2 0 rfl rfl hin d_R_entriesFor_27 ?_
        generalize dsk r24.toNatClampNeg = v27 at h ⊢
        refine lv_goto hx hb d_R_entriesFor_28 rfl ?_
        exact w_R_entriesFor_onDisk_42 h_p0 h_p0_m h_p0_d h_p0_fresh h_p0_young h_p0_dropped h_p0_released h_p0_owed h_p0_counted h_p0_inMemory h_p0_onDisk h_p0_thn F mem dsk fresh young dropped released owed counted inMemory onDisk thn moved r _ ⟨cf, hr, hlk, hK, hN, hA⟩ ih x1 x3 x4 x5 v27 h H locs ls (lv_sub hl [0, 1, 2, 3, 4, 5] rfl) hP hD hS
set_option maxHeartbeats 4000000 in
set_option maxRecDepth 100000 in
theorem c_R_entriesFor_onDisk (l : Launch) (D : va_G) (cI cZ : ClassId) (h_p0 h_p0_m h_p0_d h_p0_fresh h_p0_young h_p0_dropped h_p0_released h_p0_owed h_p0_counted h_p0_inMemory h_p0_onDisk h_p0_thn : Nat) (F : Nat) (mem : (Nat → Int32)) (dsk : (Nat → Int32)) (fresh : (Nat → Int32)) (young : (Nat → Int32)) (dropped : (Nat → Int32)) (released : (Nat → Int32)) (owed : (Nat → Int32)) (counted : (Nat → Int32)) (inMemory : (Nat → Int32)) (onDisk : (Nat → Int32)) (thn : (Nat → Int32)) (moved : Int32) (x1 : Int32) (x3 : Int32) (r : Int32) (h : s_R_entriesFor_onDisk F mem dsk fresh onDisk x1 x3 = some r) : sc_i l y_R_entriesFor (o_R_entriesFor :: wA) rm_R_entriesFor D cI cZ [.ref h_p0, .int x1, .ref h_p0_onDisk, .int x3] (w_R cI cZ h_p0 h_p0_m h_p0_d h_p0_fresh h_p0_young h_p0_dropped h_p0_released h_p0_owed h_p0_counted h_p0_inMemory h_p0_onDisk h_p0_thn mem dsk fresh young dropped released owed counted inMemory onDisk thn moved) (w_R cI cZ h_p0 h_p0_m h_p0_d h_p0_fresh h_p0_young h_p0_dropped h_p0_released h_p0_owed h_p0_counted h_p0_inMemory h_p0_onDisk h_p0_thn mem dsk fresh young dropped released owed counted inMemory onDisk thn moved) r := by
  refine sc_i_of (cc := b_R_entriesFor) (maxL := 10) (ret := (some .int)) (by decide) rfl (Nat.le_of_ble_eq_true rfl) ?_
  intro p e s m below meth c A cf hr hlk hK hN hA H locs ls hl hP hD hS
  have hx := cf.1
  have hb := cf.2.1
  have hown := cf.2.2.2.1
  have ht : ∀ w ∈ wA, w.before _ s = true := fun w h => cf.2.2.2.2 w (List.mem_cons_of_mem _ h)
  unfold s_R_entriesFor_onDisk at h
  have hl : lv_has ls 10 [(0, .ref h_p0), (1, .int x1), (2, .ref h_p0_onDisk), (3, .int x3)] := hl
  refine lv_iconst (v := (nI 0)) hx hb d_R_entriesFor_0 (by decide) ?_
  refine lv_istore (lv' := [(4, .int (nI 0)), (0, .ref h_p0), (1, .int x1), (2, .ref h_p0_onDisk), (3, .int x3)]) hx hb d_R_entriesFor_1 hl (by decide) rfl (fun ls hl => ?_)
  refine lv_iconst (v := (nI 0)) hx hb d_R_entriesFor_3 (by decide) ?_
  refine lv_istore (lv' := [(5, .int (nI 0)), (4, .int (nI 0)), (0, .ref h_p0), (1, .int x1), (2, .ref h_p0_onDisk), (3, .int x3)]) hx hb d_R_entriesFor_4 hl (by decide) rfl (fun ls hl => ?_)
  exact w_R_entriesFor_onDisk_6 h_p0 h_p0_m h_p0_d h_p0_fresh h_p0_young h_p0_dropped h_p0_released h_p0_owed h_p0_counted h_p0_inMemory h_p0_onDisk h_p0_thn F mem dsk fresh young dropped released owed counted inMemory onDisk thn moved r ⟨cf, hr, hlk, hK, hN, hA⟩ F x1 x3 (nI 0) (nI 0) h H locs ls (lv_sub hl [2, 4, 3, 5, 1, 0] rfl) hP hD hS
set_option maxHeartbeats 4000000 in
set_option maxRecDepth 100000 in
theorem w_R_defectsOfInode_157 {p : Program} {l : Launch} {e : Env} {s : State} {m : MethodId} {args : Array Value} {below : List Frame} {meth : Method} {c : Code} {D : va_G} {cI cZ : ClassId} {A : Nat → Prop} (h_p0 h_p0_m h_p0_d h_p0_fresh h_p0_young h_p0_dropped h_p0_released h_p0_owed h_p0_counted h_p0_inMemory h_p0_onDisk h_p0_thn : Nat) (F : Nat) (mem : (Nat → Int32)) (dsk : (Nat → Int32)) (fresh : (Nat → Int32)) (young : (Nat → Int32)) (dropped : (Nat → Int32)) (released : (Nat → Int32)) (owed : (Nat → Int32)) (counted : (Nat → Int32)) (inMemory : (Nat → Int32)) (onDisk : (Nat → Int32)) (thn : (Nat → Int32)) (moved : Int32) (r : Int32) (cx : cx_ok p s m args meth c b_R_defectsOfInode 7 o_R_defectsOfInode "OrderedVolumeModel" (some .int) D cI cZ A) : s_R_defectsOfInode_157 F mem dsk fresh onDisk = some r → wk_G p l e rm_R_defectsOfInode s m args below meth c (sc_Qi below args s D cI cZ A (w_R cI cZ h_p0 h_p0_m h_p0_d h_p0_fresh h_p0_young h_p0_dropped h_p0_released h_p0_owed h_p0_counted h_p0_inMemory h_p0_onDisk h_p0_thn mem dsk fresh young dropped released owed counted inMemory onDisk thn moved) r) D A 7 157 [] [(0, .ref h_p0)] (w_R cI cZ h_p0 h_p0_m h_p0_d h_p0_fresh h_p0_young h_p0_dropped h_p0_released h_p0_owed h_p0_counted h_p0_inMemory h_p0_onDisk h_p0_thn mem dsk fresh young dropped released owed counted inMemory onDisk thn moved) := by
  obtain ⟨cf, hr, hlk, hK, hN, hA⟩ := cx
  have hx := cf.1
  have hb := cf.2.1
  have hown := cf.2.2.2.1
  have ht : ∀ w ∈ wA, w.before args s = true := fun w h => cf.2.2.2.2 w (List.mem_cons_of_mem _ h)
  intro  h H locs ls hl hP hD hS
  unfold s_R_defectsOfInode_157 at h
  refine lv_iconst (v := (nI 0)) hx hb d_R_defectsOfInode_157 (by decide) ?_
  cases h
  exact sc_iret cf hr hlk hK hP hD hS d_R_defectsOfInode_158
set_option maxHeartbeats 4000000 in
set_option maxRecDepth 100000 in
theorem w_R_defectsOfInode_182 {p : Program} {l : Launch} {e : Env} {s : State} {m : MethodId} {args : Array Value} {below : List Frame} {meth : Method} {c : Code} {D : va_G} {cI cZ : ClassId} {A : Nat → Prop} (h_p0 h_p0_m h_p0_d h_p0_fresh h_p0_young h_p0_dropped h_p0_released h_p0_owed h_p0_counted h_p0_inMemory h_p0_onDisk h_p0_thn : Nat) (F : Nat) (mem : (Nat → Int32)) (dsk : (Nat → Int32)) (fresh : (Nat → Int32)) (young : (Nat → Int32)) (dropped : (Nat → Int32)) (released : (Nat → Int32)) (owed : (Nat → Int32)) (counted : (Nat → Int32)) (inMemory : (Nat → Int32)) (onDisk : (Nat → Int32)) (thn : (Nat → Int32)) (moved : Int32) (r : Int32) (cx : cx_ok p s m args meth c b_R_defectsOfInode 7 o_R_defectsOfInode "OrderedVolumeModel" (some .int) D cI cZ A) : s_R_defectsOfInode_182 F mem dsk fresh onDisk = some r → wk_G p l e rm_R_defectsOfInode s m args below meth c (sc_Qi below args s D cI cZ A (w_R cI cZ h_p0 h_p0_m h_p0_d h_p0_fresh h_p0_young h_p0_dropped h_p0_released h_p0_owed h_p0_counted h_p0_inMemory h_p0_onDisk h_p0_thn mem dsk fresh young dropped released owed counted inMemory onDisk thn moved) r) D A 7 182 [] [(0, .ref h_p0)] (w_R cI cZ h_p0 h_p0_m h_p0_d h_p0_fresh h_p0_young h_p0_dropped h_p0_released h_p0_owed h_p0_counted h_p0_inMemory h_p0_onDisk h_p0_thn mem dsk fresh young dropped released owed counted inMemory onDisk thn moved) := by
  obtain ⟨cf, hr, hlk, hK, hN, hA⟩ := cx
  have hx := cf.1
  have hb := cf.2.1
  have hown := cf.2.2.2.1
  have ht : ∀ w ∈ wA, w.before args s = true := fun w h => cf.2.2.2.2 w (List.mem_cons_of_mem _ h)
  intro  h H locs ls hl hP hD hS
  unfold s_R_defectsOfInode_182 at h
  refine lv_iconst (v := (nI 0)) hx hb d_R_defectsOfInode_182 (by decide) ?_
  cases h
  exact sc_iret cf hr hlk hK hP hD hS d_R_defectsOfInode_183
set_option maxHeartbeats 4000000 in
set_option maxRecDepth 100000 in
theorem w_R_defectsOfInode_207 {p : Program} {l : Launch} {e : Env} {s : State} {m : MethodId} {args : Array Value} {below : List Frame} {meth : Method} {c : Code} {D : va_G} {cI cZ : ClassId} {A : Nat → Prop} (h_p0 h_p0_m h_p0_d h_p0_fresh h_p0_young h_p0_dropped h_p0_released h_p0_owed h_p0_counted h_p0_inMemory h_p0_onDisk h_p0_thn : Nat) (F : Nat) (mem : (Nat → Int32)) (dsk : (Nat → Int32)) (fresh : (Nat → Int32)) (young : (Nat → Int32)) (dropped : (Nat → Int32)) (released : (Nat → Int32)) (owed : (Nat → Int32)) (counted : (Nat → Int32)) (inMemory : (Nat → Int32)) (onDisk : (Nat → Int32)) (thn : (Nat → Int32)) (moved : Int32) (r : Int32) (cx : cx_ok p s m args meth c b_R_defectsOfInode 7 o_R_defectsOfInode "OrderedVolumeModel" (some .int) D cI cZ A) : s_R_defectsOfInode_207 F mem dsk fresh onDisk = some r → wk_G p l e rm_R_defectsOfInode s m args below meth c (sc_Qi below args s D cI cZ A (w_R cI cZ h_p0 h_p0_m h_p0_d h_p0_fresh h_p0_young h_p0_dropped h_p0_released h_p0_owed h_p0_counted h_p0_inMemory h_p0_onDisk h_p0_thn mem dsk fresh young dropped released owed counted inMemory onDisk thn moved) r) D A 7 207 [] [(0, .ref h_p0)] (w_R cI cZ h_p0 h_p0_m h_p0_d h_p0_fresh h_p0_young h_p0_dropped h_p0_released h_p0_owed h_p0_counted h_p0_inMemory h_p0_onDisk h_p0_thn mem dsk fresh young dropped released owed counted inMemory onDisk thn moved) := by
  obtain ⟨cf, hr, hlk, hK, hN, hA⟩ := cx
  have hx := cf.1
  have hb := cf.2.1
  have hown := cf.2.2.2.1
  have ht : ∀ w ∈ wA, w.before args s = true := fun w h => cf.2.2.2.2 w (List.mem_cons_of_mem _ h)
  intro  h H locs ls hl hP hD hS
  unfold s_R_defectsOfInode_207 at h
  refine lv_iconst (v := (nI 0)) hx hb d_R_defectsOfInode_207 (by decide) ?_
  cases h
  exact sc_iret cf hr hlk hK hP hD hS d_R_defectsOfInode_208
set_option maxHeartbeats 4000000 in
set_option maxRecDepth 100000 in
theorem w_R_defectsOfInode_85 {p : Program} {l : Launch} {e : Env} {s : State} {m : MethodId} {args : Array Value} {below : List Frame} {meth : Method} {c : Code} {D : va_G} {cI cZ : ClassId} {A : Nat → Prop} (h_p0 h_p0_m h_p0_d h_p0_fresh h_p0_young h_p0_dropped h_p0_released h_p0_owed h_p0_counted h_p0_inMemory h_p0_onDisk h_p0_thn : Nat) (F : Nat) (mem : (Nat → Int32)) (dsk : (Nat → Int32)) (fresh : (Nat → Int32)) (young : (Nat → Int32)) (dropped : (Nat → Int32)) (released : (Nat → Int32)) (owed : (Nat → Int32)) (counted : (Nat → Int32)) (inMemory : (Nat → Int32)) (onDisk : (Nat → Int32)) (thn : (Nat → Int32)) (moved : Int32) (r : Int32) (cx : cx_ok p s m args meth c b_R_defectsOfInode 7 o_R_defectsOfInode "OrderedVolumeModel" (some .int) D cI cZ A) : ∀ (x1 : Int32) (x2 : Int32) (x3 : Int32) (x4 : Int32) (x5 : Int32) (t0 : Int32), s_R_defectsOfInode_85 F mem dsk fresh onDisk x1 x2 x3 x4 x5 t0 = some r → wk_G p l e rm_R_defectsOfInode s m args below meth c (sc_Qi below args s D cI cZ A (w_R cI cZ h_p0 h_p0_m h_p0_d h_p0_fresh h_p0_young h_p0_dropped h_p0_released h_p0_owed h_p0_counted h_p0_inMemory h_p0_onDisk h_p0_thn mem dsk fresh young dropped released owed counted inMemory onDisk thn moved) r) D A 7 85 [.int t0] [(0, .ref h_p0), (1, .int x1), (2, .int x2), (3, .int x3), (4, .int x4), (5, .int x5)] (w_R cI cZ h_p0 h_p0_m h_p0_d h_p0_fresh h_p0_young h_p0_dropped h_p0_released h_p0_owed h_p0_counted h_p0_inMemory h_p0_onDisk h_p0_thn mem dsk fresh young dropped released owed counted inMemory onDisk thn moved) := by
  obtain ⟨cf, hr, hlk, hK, hN, hA⟩ := cx
  have hx := cf.1
  have hb := cf.2.1
  have hown := cf.2.2.2.1
  have ht : ∀ w ∈ wA, w.before args s = true := fun w h => cf.2.2.2.2 w (List.mem_cons_of_mem _ h)
  intro x1 x2 x3 x4 x5 t0 h H locs ls hl hP hD hS
  unfold s_R_defectsOfInode_85 at h
  refine lv_istore (lv' := [(6, .int t0), (0, .ref h_p0), (1, .int x1), (2, .int x2), (3, .int x3), (4, .int x4), (5, .int x5)]) hx hb d_R_defectsOfInode_85 hl (by decide) rfl (fun ls hl => ?_)
  refine lv_iload_n hx hb d_R_defectsOfInode_87 rfl (lv_at hl 2 rfl) ?_
  by_cases hc0 : x1 = (nI 0)
  · rw [if_pos hc0] at h
    refine lv_tableIn (off := 40) (tgt := 128) hx hb d_R_defectsOfInode_88 (by rw [hc0]; decide) (by rw [hc0]; decide) (by rw [hc0]; decide) rfl ?_
    refine lv_iload hx hb d_R_defectsOfInode_128 (lv_at hl 6 rfl) ?_
    refine lv_if_eq hx hb d_R_defectsOfInode_130 rfl (fun hc => ?_) (fun hc => ?_)
    · rw [if_pos hc] at h
      refine lv_iconst (v := (nI 0)) hx hb d_R_defectsOfInode_137 (by decide) ?_
      cases h
      exact sc_iret cf hr hlk hK hP hD hS d_R_defectsOfInode_138
    · rw [if_neg hc] at h
      refine lv_iload_n hx hb d_R_defectsOfInode_133 rfl (lv_at hl 4 rfl) ?_
      refine lv_goto hx hb d_R_defectsOfInode_134 rfl ?_
      cases h
      exact sc_iret cf hr hlk hK hP hD hS d_R_defectsOfInode_138
  rw [if_neg hc0] at h
  by_cases hc1 : x1 = (nI 1)
  · rw [if_pos hc1] at h
    refine lv_tableIn (off := 121) (tgt := 209) hx hb d_R_defectsOfInode_88 (by rw [hc1]; decide) (by rw [hc1]; decide) (by rw [hc1]; decide) rfl ?_
    refine lv_iconst (v := (nI 0)) hx hb d_R_defectsOfInode_209 (by decide) ?_
    cases h
    exact sc_iret cf hr hlk hK hP hD hS d_R_defectsOfInode_210
  rw [if_neg hc1] at h
  by_cases hc2 : x1 = (nI 2)
  · rw [if_pos hc2] at h
    refine lv_tableIn (off := 121) (tgt := 209) hx hb d_R_defectsOfInode_88 (by rw [hc2]; decide) (by rw [hc2]; decide) (by rw [hc2]; decide) rfl ?_
    refine lv_iconst (v := (nI 0)) hx hb d_R_defectsOfInode_209 (by decide) ?_
    cases h
    exact sc_iret cf hr hlk hK hP hD hS d_R_defectsOfInode_210
  rw [if_neg hc2] at h
  by_cases hc3 : x1 = (nI 3)
  · rw [if_pos hc3] at h
    refine lv_tableIn (off := 51) (tgt := 139) hx hb d_R_defectsOfInode_88 (by rw [hc3]; decide) (by rw [hc3]; decide) (by rw [hc3]; decide) rfl ?_
    refine lv_aload_n hx hb d_R_defectsOfInode_139 rfl (lv_at hl 1 rfl) ?_
    refine va_get (D := D) (ci := 2) (v := .ref h_p0_onDisk) (C := R_R) (T := F_R) (N := 12) hx hb ht in_R hown hK hP 0 rfl rfl 9 (by decide) (ht _ f_R_38) (fun _ h9 => h9) rfl d_R_defectsOfInode_140 ?_
    refine lv_iload_n hx hb d_R_defectsOfInode_143 rfl (lv_at hl 3 rfl) ?_
    obtain ⟨hin, h⟩ := gr_some h
    refine va_zald hx hb hK hP 10 1 rfl rfl hin d_R_defectsOfInode_144 ?_
    generalize onDisk x2.toNatClampNeg = v144 at h ⊢
    refine lv_if_ne hx hb d_R_defectsOfInode_145 rfl (fun hc => ?_) (fun hc => ?_)
    · rw [if_neg hc] at h
      exact w_R_defectsOfInode_157 h_p0 h_p0_m h_p0_d h_p0_fresh h_p0_young h_p0_dropped h_p0_released h_p0_owed h_p0_counted h_p0_inMemory h_p0_onDisk h_p0_thn F mem dsk fresh young dropped released owed counted inMemory onDisk thn moved r ⟨cf, hr, hlk, hK, hN, hA⟩ h H locs ls (lv_sub hl [1] rfl) hP hD hS
    · rw [if_pos hc] at h
      refine lv_iload hx hb d_R_defectsOfInode_148 (lv_at hl 0 rfl) ?_
      refine lv_if_eq hx hb d_R_defectsOfInode_150 rfl (fun hc => ?_) (fun hc => ?_)
      · rw [if_pos hc] at h
        exact w_R_defectsOfInode_157 h_p0 h_p0_m h_p0_d h_p0_fresh h_p0_young h_p0_dropped h_p0_released h_p0_owed h_p0_counted h_p0_inMemory h_p0_onDisk h_p0_thn F mem dsk fresh young dropped released owed counted inMemory onDisk thn moved r ⟨cf, hr, hlk, hK, hN, hA⟩ h H locs ls (lv_sub hl [1] rfl) hP hD hS
      · rw [if_neg hc] at h
        refine lv_iconst (v := (nI 1)) hx hb d_R_defectsOfInode_153 (by decide) ?_
        refine lv_goto hx hb d_R_defectsOfInode_154 rfl ?_
        cases h
        exact sc_iret cf hr hlk hK hP hD hS d_R_defectsOfInode_158
  rw [if_neg hc3] at h
  by_cases hc4 : x1 = (nI 4)
  · rw [if_pos hc4] at h
    refine lv_tableIn (off := 71) (tgt := 159) hx hb d_R_defectsOfInode_88 (by rw [hc4]; decide) (by rw [hc4]; decide) (by rw [hc4]; decide) rfl ?_
    refine lv_iload_n hx hb d_R_defectsOfInode_159 rfl (lv_at hl 3 rfl) ?_
    refine lv_if_le hx hb d_R_defectsOfInode_160 rfl (fun hc => ?_) (fun hc => ?_)
    · rw [if_pos hc] at h
      exact w_R_defectsOfInode_182 h_p0 h_p0_m h_p0_d h_p0_fresh h_p0_young h_p0_dropped h_p0_released h_p0_owed h_p0_counted h_p0_inMemory h_p0_onDisk h_p0_thn F mem dsk fresh young dropped released owed counted inMemory onDisk thn moved r ⟨cf, hr, hlk, hK, hN, hA⟩ h H locs ls (lv_sub hl [1] rfl) hP hD hS
    · rw [if_neg hc] at h
      refine lv_aload_n hx hb d_R_defectsOfInode_163 rfl (lv_at hl 1 rfl) ?_
      refine va_get (D := D) (ci := 2) (v := .ref h_p0_onDisk) (C := R_R) (T := F_R) (N := 12) hx hb ht in_R hown hK hP 0 rfl rfl 9 (by decide) (ht _ f_R_38) (fun _ h9 => h9) rfl d_R_defectsOfInode_164 ?_
      refine lv_iload_n hx hb d_R_defectsOfInode_167 rfl (lv_at hl 3 rfl) ?_
      obtain ⟨hin, h⟩ := gr_some h
      refine va_zald hx hb hK hP 10 1 rfl rfl hin d_R_defectsOfInode_168 ?_
      generalize onDisk x2.toNatClampNeg = v168 at h ⊢
      refine lv_if_eq hx hb d_R_defectsOfInode_169 rfl (fun hc => ?_) (fun hc => ?_)
      · rw [if_pos hc] at h
        exact w_R_defectsOfInode_182 h_p0 h_p0_m h_p0_d h_p0_fresh h_p0_young h_p0_dropped h_p0_released h_p0_owed h_p0_counted h_p0_inMemory h_p0_onDisk h_p0_thn F mem dsk fresh young dropped released owed counted inMemory onDisk thn moved r ⟨cf, hr, hlk, hK, hN, hA⟩ h H locs ls (lv_sub hl [1] rfl) hP hD hS
      · rw [if_neg hc] at h
        refine lv_iload hx hb d_R_defectsOfInode_172 (lv_at hl 5 rfl) ?_
        refine lv_iload_n hx hb d_R_defectsOfInode_174 rfl (lv_at hl 4 rfl) ?_
        refine lv_icmp_le hx hb d_R_defectsOfInode_175 rfl (fun hc => ?_) (fun hc => ?_)
        · rw [if_pos hc] at h
          exact w_R_defectsOfInode_182 h_p0 h_p0_m h_p0_d h_p0_fresh h_p0_young h_p0_dropped h_p0_released h_p0_owed h_p0_counted h_p0_inMemory h_p0_onDisk h_p0_thn F mem dsk fresh young dropped released owed counted inMemory onDisk thn moved r ⟨cf, hr, hlk, hK, hN, hA⟩ h H locs ls (lv_sub hl [1] rfl) hP hD hS
        · rw [if_neg hc] at h
          refine lv_iconst (v := (nI 1)) hx hb d_R_defectsOfInode_178 (by decide) ?_
          refine lv_goto hx hb d_R_defectsOfInode_179 rfl ?_
          cases h
          exact sc_iret cf hr hlk hK hP hD hS d_R_defectsOfInode_183
  rw [if_neg hc4] at h
  by_cases hc5 : x1 = (nI 5)
  · rw [if_pos hc5] at h
    refine lv_tableIn (off := 96) (tgt := 184) hx hb d_R_defectsOfInode_88 (by rw [hc5]; decide) (by rw [hc5]; decide) (by rw [hc5]; decide) rfl ?_
    refine lv_iload_n hx hb d_R_defectsOfInode_184 rfl (lv_at hl 3 rfl) ?_
    refine lv_if_le hx hb d_R_defectsOfInode_185 rfl (fun hc => ?_) (fun hc => ?_)
    · rw [if_pos hc] at h
      exact w_R_defectsOfInode_207 h_p0 h_p0_m h_p0_d h_p0_fresh h_p0_young h_p0_dropped h_p0_released h_p0_owed h_p0_counted h_p0_inMemory h_p0_onDisk h_p0_thn F mem dsk fresh young dropped released owed counted inMemory onDisk thn moved r ⟨cf, hr, hlk, hK, hN, hA⟩ h H locs ls (lv_sub hl [1] rfl) hP hD hS
    · rw [if_neg hc] at h
      refine lv_aload_n hx hb d_R_defectsOfInode_188 rfl (lv_at hl 1 rfl) ?_
      refine va_get (D := D) (ci := 2) (v := .ref h_p0_onDisk) (C := R_R) (T := F_R) (N := 12) hx hb ht in_R hown hK hP 0 rfl rfl 9 (by decide) (ht _ f_R_38) (fun _ h9 => h9) rfl d_R_defectsOfInode_189 ?_
      refine lv_iload_n hx hb d_R_defectsOfInode_192 rfl (lv_at hl 3 rfl) ?_
      obtain ⟨hin, h⟩ := gr_some h
      refine va_zald hx hb hK hP 10 1 rfl rfl hin d_R_defectsOfInode_193 ?_
      generalize onDisk x2.toNatClampNeg = v193 at h ⊢
      refine lv_if_eq hx hb d_R_defectsOfInode_194 rfl (fun hc => ?_) (fun hc => ?_)
      · rw [if_pos hc] at h
        exact w_R_defectsOfInode_207 h_p0 h_p0_m h_p0_d h_p0_fresh h_p0_young h_p0_dropped h_p0_released h_p0_owed h_p0_counted h_p0_inMemory h_p0_onDisk h_p0_thn F mem dsk fresh young dropped released owed counted inMemory onDisk thn moved r ⟨cf, hr, hlk, hK, hN, hA⟩ h H locs ls (lv_sub hl [1] rfl) hP hD hS
      · rw [if_neg hc] at h
        refine lv_iload hx hb d_R_defectsOfInode_197 (lv_at hl 5 rfl) ?_
        refine lv_iload_n hx hb d_R_defectsOfInode_199 rfl (lv_at hl 4 rfl) ?_
        refine lv_icmp_ge hx hb d_R_defectsOfInode_200 rfl (fun hc => ?_) (fun hc => ?_)
        · rw [if_pos hc] at h
          exact w_R_defectsOfInode_207 h_p0 h_p0_m h_p0_d h_p0_fresh h_p0_young h_p0_dropped h_p0_released h_p0_owed h_p0_counted h_p0_inMemory h_p0_onDisk h_p0_thn F mem dsk fresh young dropped released owed counted inMemory onDisk thn moved r ⟨cf, hr, hlk, hK, hN, hA⟩ h H locs ls (lv_sub hl [1] rfl) hP hD hS
        · rw [if_neg hc] at h
          refine lv_iconst (v := (nI 1)) hx hb d_R_defectsOfInode_203 (by decide) ?_
          refine lv_goto hx hb d_R_defectsOfInode_204 rfl ?_
          cases h
          exact sc_iret cf hr hlk hK hP hD hS d_R_defectsOfInode_208
  rw [if_neg hc5] at h
  refine lv_tableOut (tgt := 209) hx hb d_R_defectsOfInode_88 (tsw_out (n := 5) (by decide) (fun k hk => by rcases (show k = 0 ∨ k = 1 ∨ k = 2 ∨ k = 3 ∨ k = 4 ∨ k = 5 by omega) with rfl | rfl | rfl | rfl | rfl | rfl <;> assumption)) rfl ?_
  refine lv_iconst (v := (nI 0)) hx hb d_R_defectsOfInode_209 (by decide) ?_
  cases h
  exact sc_iret cf hr hlk hK hP hD hS d_R_defectsOfInode_210
set_option maxHeartbeats 4000000 in
set_option maxRecDepth 100000 in
theorem w_R_defectsOfInode_80 {p : Program} {l : Launch} {e : Env} {s : State} {m : MethodId} {args : Array Value} {below : List Frame} {meth : Method} {c : Code} {D : va_G} {cI cZ : ClassId} {A : Nat → Prop} (h_p0 h_p0_m h_p0_d h_p0_fresh h_p0_young h_p0_dropped h_p0_released h_p0_owed h_p0_counted h_p0_inMemory h_p0_onDisk h_p0_thn : Nat) (F : Nat) (mem : (Nat → Int32)) (dsk : (Nat → Int32)) (fresh : (Nat → Int32)) (young : (Nat → Int32)) (dropped : (Nat → Int32)) (released : (Nat → Int32)) (owed : (Nat → Int32)) (counted : (Nat → Int32)) (inMemory : (Nat → Int32)) (onDisk : (Nat → Int32)) (thn : (Nat → Int32)) (moved : Int32) (r : Int32) (cx : cx_ok p s m args meth c b_R_defectsOfInode 7 o_R_defectsOfInode "OrderedVolumeModel" (some .int) D cI cZ A) : ∀ (x1 : Int32) (x2 : Int32) (x3 : Int32) (x4 : Int32) (x5 : Int32), s_R_defectsOfInode_80 F mem dsk fresh onDisk x1 x2 x3 x4 x5 = some r → wk_G p l e rm_R_defectsOfInode s m args below meth c (sc_Qi below args s D cI cZ A (w_R cI cZ h_p0 h_p0_m h_p0_d h_p0_fresh h_p0_young h_p0_dropped h_p0_released h_p0_owed h_p0_counted h_p0_inMemory h_p0_onDisk h_p0_thn mem dsk fresh young dropped released owed counted inMemory onDisk thn moved) r) D A 7 80 [] [(0, .ref h_p0), (1, .int x1), (2, .int x2), (3, .int x3), (4, .int x4), (5, .int x5)] (w_R cI cZ h_p0 h_p0_m h_p0_d h_p0_fresh h_p0_young h_p0_dropped h_p0_released h_p0_owed h_p0_counted h_p0_inMemory h_p0_onDisk h_p0_thn mem dsk fresh young dropped released owed counted inMemory onDisk thn moved) := by
  obtain ⟨cf, hr, hlk, hK, hN, hA⟩ := cx
  have hx := cf.1
  have hb := cf.2.1
  have hown := cf.2.2.2.1
  have ht : ∀ w ∈ wA, w.before args s = true := fun w h => cf.2.2.2.2 w (List.mem_cons_of_mem _ h)
  intro x1 x2 x3 x4 x5 h H locs ls hl hP hD hS
  unfold s_R_defectsOfInode_80 at h
  refine lv_iconst (v := (nI 1)) hx hb d_R_defectsOfInode_80 (by decide) ?_
  refine lv_goto hx hb d_R_defectsOfInode_81 rfl ?_
  exact w_R_defectsOfInode_85 h_p0 h_p0_m h_p0_d h_p0_fresh h_p0_young h_p0_dropped h_p0_released h_p0_owed h_p0_counted h_p0_inMemory h_p0_onDisk h_p0_thn F mem dsk fresh young dropped released owed counted inMemory onDisk thn moved r ⟨cf, hr, hlk, hK, hN, hA⟩ x1 x2 x3 x4 x5 (nI 1) h H locs ls (lv_sub hl [0, 1, 2, 3, 4, 5] rfl) hP hD hS
set_option maxHeartbeats 4000000 in
set_option maxRecDepth 100000 in
theorem w_R_defectsOfInode_53 {p : Program} {l : Launch} {e : Env} {s : State} {m : MethodId} {args : Array Value} {below : List Frame} {meth : Method} {c : Code} {D : va_G} {cI cZ : ClassId} {A : Nat → Prop} (h_p0 h_p0_m h_p0_d h_p0_fresh h_p0_young h_p0_dropped h_p0_released h_p0_owed h_p0_counted h_p0_inMemory h_p0_onDisk h_p0_thn : Nat) (F : Nat) (mem : (Nat → Int32)) (dsk : (Nat → Int32)) (fresh : (Nat → Int32)) (young : (Nat → Int32)) (dropped : (Nat → Int32)) (released : (Nat → Int32)) (owed : (Nat → Int32)) (counted : (Nat → Int32)) (inMemory : (Nat → Int32)) (onDisk : (Nat → Int32)) (thn : (Nat → Int32)) (moved : Int32) (r : Int32) (cx : cx_ok p s m args meth c b_R_defectsOfInode 7 o_R_defectsOfInode "OrderedVolumeModel" (some .int) D cI cZ A) : ∀ (x1 : Int32) (x2 : Int32) (x3 : Int32) (x4 : Int32) (t0 : Int32), s_R_defectsOfInode_53 F mem dsk fresh onDisk x1 x2 x3 x4 t0 = some r → wk_G p l e rm_R_defectsOfInode s m args below meth c (sc_Qi below args s D cI cZ A (w_R cI cZ h_p0 h_p0_m h_p0_d h_p0_fresh h_p0_young h_p0_dropped h_p0_released h_p0_owed h_p0_counted h_p0_inMemory h_p0_onDisk h_p0_thn mem dsk fresh young dropped released owed counted inMemory onDisk thn moved) r) D A 7 53 [.int t0] [(0, .ref h_p0), (1, .int x1), (2, .int x2), (3, .int x3), (4, .int x4)] (w_R cI cZ h_p0 h_p0_m h_p0_d h_p0_fresh h_p0_young h_p0_dropped h_p0_released h_p0_owed h_p0_counted h_p0_inMemory h_p0_onDisk h_p0_thn mem dsk fresh young dropped released owed counted inMemory onDisk thn moved) := by
  obtain ⟨cf, hr, hlk, hK, hN, hA⟩ := cx
  have hx := cf.1
  have hb := cf.2.1
  have hown := cf.2.2.2.1
  have ht : ∀ w ∈ wA, w.before args s = true := fun w h => cf.2.2.2.2 w (List.mem_cons_of_mem _ h)
  intro x1 x2 x3 x4 t0 h H locs ls hl hP hD hS
  unfold s_R_defectsOfInode_53 at h
  refine lv_istore (lv' := [(5, .int t0), (0, .ref h_p0), (1, .int x1), (2, .int x2), (3, .int x3), (4, .int x4)]) hx hb d_R_defectsOfInode_53 hl (by decide) rfl (fun ls hl => ?_)
  refine lv_aload_n hx hb d_R_defectsOfInode_55 rfl (lv_at hl 1 rfl) ?_
  refine va_get (D := D) (ci := 2) (v := .ref h_p0_d) (C := R_R) (T := F_R) (N := 12) hx hb ht in_R hown hK hP 0 rfl rfl 1 (by decide) (ht _ f_R_13) (fun _ h9 => h9) rfl d_R_defectsOfInode_56 ?_
  refine lv_iload_n hx hb d_R_defectsOfInode_59 rfl (lv_at hl 3 rfl) ?_
  refine lv_iconst (v := (nI 0)) hx hb d_R_defectsOfInode_60 (by decide) ?_
  obtain ⟨r61, h61, h⟩ := bd_some h
  refine wk_Si (As := [.int x2, .int (nI 0)]) (rest := [.ref h_p0_d]) (wc := []) (w1 := []) (wr := [(h_p0, .inr (2, [.ref h_p0_m, .ref h_p0_d, .ref h_p0_fresh, .ref h_p0_young, .ref h_p0_dropped, .ref h_p0_released, .ref h_p0_owed, .ref h_p0_counted, .ref h_p0_inMemory, .ref h_p0_onDisk, .ref h_p0_thn, .int moved])), (h_p0_m, .inl (cI, 1080, .inl mem)), (h_p0_d, .inl (cI, 1080, .inl dsk)), (h_p0_fresh, .inl (cZ, 36, .inl fresh)), (h_p0_young, .inl (cZ, 288, .inl young)), (h_p0_dropped, .inl (cI, 36, .inl dropped)), (h_p0_released, .inl (cZ, 18, .inl released)), (h_p0_owed, .inl (cI, 18, .inl owed)), (h_p0_counted, .inl (cI, 18, .inl counted)), (h_p0_inMemory, .inl (cZ, 18, .inl inMemory)), (h_p0_onDisk, .inl (cZ, 18, .inl onDisk)), (h_p0_thn, .inl (cZ, 18, .inl thn))]) (wz := (w_R cI cZ h_p0 h_p0_m h_p0_d h_p0_fresh h_p0_young h_p0_dropped h_p0_released h_p0_owed h_p0_counted h_p0_inMemory h_p0_onDisk h_p0_thn mem dsk fresh young dropped released owed counted inMemory onDisk thn moved)) cf hK hN hA (c_R_at l D cI cZ 0 x2 (nI 0) r61 h61) k_R_44 ⟨rfl, rfl, by decide, by decide⟩ hl hP hD hS [] [0, 1, 2, 3, 4, 5, 6, 7, 8, 9, 10, 11] [0, 1, 2, 3, 4, 5, 6, 7, 8, 9, 10, 11] rfl rfl rfl (by decide) rfl rfl rfl rfl rfl (Nat.le_of_ble_eq_true rfl) rfl d_R_defectsOfInode_61 (fun H locs hP hD hS => ?_)
  obtain ⟨hin, h⟩ := gr_some h
  refine va_iald hx hb hK hP 2 0 rfl rfl hin d_R_defectsOfInode_64 ?_
  generalize dsk r61.toNatClampNeg = v64 at h ⊢
  refine lv_if_ne hx hb d_R_defectsOfInode_65 rfl (fun hc => ?_) (fun hc => ?_)
  · rw [if_neg hc] at h
    exact w_R_defectsOfInode_80 h_p0 h_p0_m h_p0_d h_p0_fresh h_p0_young h_p0_dropped h_p0_released h_p0_owed h_p0_counted h_p0_inMemory h_p0_onDisk h_p0_thn F mem dsk fresh young dropped released owed counted inMemory onDisk thn moved r ⟨cf, hr, hlk, hK, hN, hA⟩ x1 x2 x3 x4 t0 h H locs ls (lv_sub hl [1, 2, 3, 4, 5, 0] rfl) hP hD hS
  · rw [if_pos hc] at h
    refine lv_aload_n hx hb d_R_defectsOfInode_68 rfl (lv_at hl 1 rfl) ?_
    refine va_get (D := D) (ci := 2) (v := .ref h_p0_d) (C := R_R) (T := F_R) (N := 12) hx hb ht in_R hown hK hP 0 rfl rfl 1 (by decide) (ht _ f_R_13) (fun _ h9 => h9) rfl d_R_defectsOfInode_69 ?_
    refine lv_iload_n hx hb d_R_defectsOfInode_72 rfl (lv_at hl 3 rfl) ?_
    obtain ⟨r73, h73, h⟩ := bd_some h
    refine wk_Si (As := [.int x2]) (rest := [.ref h_p0_d]) (wc := []) (w1 := []) (wr := [(h_p0, .inr (2, [.ref h_p0_m, .ref h_p0_d, .ref h_p0_fresh, .ref h_p0_young, .ref h_p0_dropped, .ref h_p0_released, .ref h_p0_owed, .ref h_p0_counted, .ref h_p0_inMemory, .ref h_p0_onDisk, .ref h_p0_thn, .int moved])), (h_p0_m, .inl (cI, 1080, .inl mem)), (h_p0_d, .inl (cI, 1080, .inl dsk)), (h_p0_fresh, .inl (cZ, 36, .inl fresh)), (h_p0_young, .inl (cZ, 288, .inl young)), (h_p0_dropped, .inl (cI, 36, .inl dropped)), (h_p0_released, .inl (cZ, 18, .inl released)), (h_p0_owed, .inl (cI, 18, .inl owed)), (h_p0_counted, .inl (cI, 18, .inl counted)), (h_p0_inMemory, .inl (cZ, 18, .inl inMemory)), (h_p0_onDisk, .inl (cZ, 18, .inl onDisk)), (h_p0_thn, .inl (cZ, 18, .inl thn))]) (wz := (w_R cI cZ h_p0 h_p0_m h_p0_d h_p0_fresh h_p0_young h_p0_dropped h_p0_released h_p0_owed h_p0_counted h_p0_inMemory h_p0_onDisk h_p0_thn mem dsk fresh young dropped released owed counted inMemory onDisk thn moved)) cf hK hN hA (c_R_markOfInode l D cI cZ 0 x2 r73 h73) k_R_48 ⟨rfl, rfl, by decide, by decide⟩ hl hP hD hS [] [0, 1, 2, 3, 4, 5, 6, 7, 8, 9, 10, 11] [0, 1, 2, 3, 4, 5, 6, 7, 8, 9, 10, 11] rfl rfl rfl (by decide) rfl rfl rfl rfl rfl (Nat.le_of_ble_eq_true rfl) rfl d_R_defectsOfInode_73 (fun H locs hP hD hS => ?_)
    obtain ⟨hin, h⟩ := gr_some h
    refine va_iald hx hb hK hP 2 0 rfl rfl hin d_R_defectsOfInode_76 ?_
    generalize dsk r73.toNatClampNeg = v76 at h ⊢
    refine lv_if_eq hx hb d_R_defectsOfInode_77 rfl (fun hc => ?_) (fun hc => ?_)
    · rw [if_pos hc] at h
      refine lv_iconst (v := (nI 0)) hx hb d_R_defectsOfInode_84 (by decide) ?_
      exact w_R_defectsOfInode_85 h_p0 h_p0_m h_p0_d h_p0_fresh h_p0_young h_p0_dropped h_p0_released h_p0_owed h_p0_counted h_p0_inMemory h_p0_onDisk h_p0_thn F mem dsk fresh young dropped released owed counted inMemory onDisk thn moved r ⟨cf, hr, hlk, hK, hN, hA⟩ x1 x2 x3 x4 t0 (nI 0) h H locs ls (lv_sub hl [1, 2, 3, 4, 5, 0] rfl) hP hD hS
    · rw [if_neg hc] at h
      exact w_R_defectsOfInode_80 h_p0 h_p0_m h_p0_d h_p0_fresh h_p0_young h_p0_dropped h_p0_released h_p0_owed h_p0_counted h_p0_inMemory h_p0_onDisk h_p0_thn F mem dsk fresh young dropped released owed counted inMemory onDisk thn moved r ⟨cf, hr, hlk, hK, hN, hA⟩ x1 x2 x3 x4 t0 h H locs ls (lv_sub hl [1, 2, 3, 4, 5, 0] rfl) hP hD hS
set_option maxHeartbeats 4000000 in
set_option maxRecDepth 100000 in
theorem w_R_defectsOfInode_48 {p : Program} {l : Launch} {e : Env} {s : State} {m : MethodId} {args : Array Value} {below : List Frame} {meth : Method} {c : Code} {D : va_G} {cI cZ : ClassId} {A : Nat → Prop} (h_p0 h_p0_m h_p0_d h_p0_fresh h_p0_young h_p0_dropped h_p0_released h_p0_owed h_p0_counted h_p0_inMemory h_p0_onDisk h_p0_thn : Nat) (F : Nat) (mem : (Nat → Int32)) (dsk : (Nat → Int32)) (fresh : (Nat → Int32)) (young : (Nat → Int32)) (dropped : (Nat → Int32)) (released : (Nat → Int32)) (owed : (Nat → Int32)) (counted : (Nat → Int32)) (inMemory : (Nat → Int32)) (onDisk : (Nat → Int32)) (thn : (Nat → Int32)) (moved : Int32) (r : Int32) (cx : cx_ok p s m args meth c b_R_defectsOfInode 7 o_R_defectsOfInode "OrderedVolumeModel" (some .int) D cI cZ A) : ∀ (x1 : Int32) (x2 : Int32) (x3 : Int32) (x4 : Int32), s_R_defectsOfInode_48 F mem dsk fresh onDisk x1 x2 x3 x4 = some r → wk_G p l e rm_R_defectsOfInode s m args below meth c (sc_Qi below args s D cI cZ A (w_R cI cZ h_p0 h_p0_m h_p0_d h_p0_fresh h_p0_young h_p0_dropped h_p0_released h_p0_owed h_p0_counted h_p0_inMemory h_p0_onDisk h_p0_thn mem dsk fresh young dropped released owed counted inMemory onDisk thn moved) r) D A 7 48 [] [(0, .ref h_p0), (1, .int x1), (2, .int x2), (3, .int x3), (4, .int x4)] (w_R cI cZ h_p0 h_p0_m h_p0_d h_p0_fresh h_p0_young h_p0_dropped h_p0_released h_p0_owed h_p0_counted h_p0_inMemory h_p0_onDisk h_p0_thn mem dsk fresh young dropped released owed counted inMemory onDisk thn moved) := by
  obtain ⟨cf, hr, hlk, hK, hN, hA⟩ := cx
  have hx := cf.1
  have hb := cf.2.1
  have hown := cf.2.2.2.1
  have ht : ∀ w ∈ wA, w.before args s = true := fun w h => cf.2.2.2.2 w (List.mem_cons_of_mem _ h)
  intro x1 x2 x3 x4 h H locs ls hl hP hD hS
  unfold s_R_defectsOfInode_48 at h
  refine lv_iconst (v := (nI 1)) hx hb d_R_defectsOfInode_48 (by decide) ?_
  refine lv_goto hx hb d_R_defectsOfInode_49 rfl ?_
  exact w_R_defectsOfInode_53 h_p0 h_p0_m h_p0_d h_p0_fresh h_p0_young h_p0_dropped h_p0_released h_p0_owed h_p0_counted h_p0_inMemory h_p0_onDisk h_p0_thn F mem dsk fresh young dropped released owed counted inMemory onDisk thn moved r ⟨cf, hr, hlk, hK, hN, hA⟩ x1 x2 x3 x4 (nI 1) h H locs ls (lv_sub hl [0, 1, 2, 3, 4] rfl) hP hD hS
set_option maxHeartbeats 4000000 in
set_option maxRecDepth 100000 in
theorem c_R_defectsOfInode (l : Launch) (D : va_G) (cI cZ : ClassId) (h_p0 h_p0_m h_p0_d h_p0_fresh h_p0_young h_p0_dropped h_p0_released h_p0_owed h_p0_counted h_p0_inMemory h_p0_onDisk h_p0_thn : Nat) (F : Nat) (mem : (Nat → Int32)) (dsk : (Nat → Int32)) (fresh : (Nat → Int32)) (young : (Nat → Int32)) (dropped : (Nat → Int32)) (released : (Nat → Int32)) (owed : (Nat → Int32)) (counted : (Nat → Int32)) (inMemory : (Nat → Int32)) (onDisk : (Nat → Int32)) (thn : (Nat → Int32)) (moved : Int32) (x1 : Int32) (x2 : Int32) (r : Int32) (h : s_R_defectsOfInode F mem dsk fresh onDisk x1 x2 = some r) : sc_i l y_R_defectsOfInode (o_R_defectsOfInode :: wA) rm_R_defectsOfInode D cI cZ [.ref h_p0, .int x1, .int x2] (w_R cI cZ h_p0 h_p0_m h_p0_d h_p0_fresh h_p0_young h_p0_dropped h_p0_released h_p0_owed h_p0_counted h_p0_inMemory h_p0_onDisk h_p0_thn mem dsk fresh young dropped released owed counted inMemory onDisk thn moved) (w_R cI cZ h_p0 h_p0_m h_p0_d h_p0_fresh h_p0_young h_p0_dropped h_p0_released h_p0_owed h_p0_counted h_p0_inMemory h_p0_onDisk h_p0_thn mem dsk fresh young dropped released owed counted inMemory onDisk thn moved) r := by
  refine sc_i_of (cc := b_R_defectsOfInode) (maxL := 7) (ret := (some .int)) (by decide) rfl (Nat.le_of_ble_eq_true rfl) ?_
  intro p e s m below meth c A cf hr hlk hK hN hA H locs ls hl hP hD hS
  have hx := cf.1
  have hb := cf.2.1
  have hown := cf.2.2.2.1
  have ht : ∀ w ∈ wA, w.before _ s = true := fun w h => cf.2.2.2.2 w (List.mem_cons_of_mem _ h)
  unfold s_R_defectsOfInode at h
  have hl : lv_has ls 7 [(0, .ref h_p0), (1, .int x1), (2, .int x2)] := hl
  refine lv_aload_n hx hb d_R_defectsOfInode_0 rfl (lv_at hl 0 rfl) ?_
  refine lv_iconst (v := (nI 1)) hx hb d_R_defectsOfInode_1 (by decide) ?_
  refine lv_aload_n hx hb d_R_defectsOfInode_2 rfl (lv_at hl 0 rfl) ?_
  refine va_get (D := D) (ci := 2) (v := .ref h_p0_onDisk) (C := R_R) (T := F_R) (N := 12) hx hb ht in_R hown hK hP 0 rfl rfl 9 (by decide) (ht _ f_R_38) (fun _ h9 => h9) rfl d_R_defectsOfInode_3 ?_
  refine lv_iload_n hx hb d_R_defectsOfInode_6 rfl (lv_at hl 2 rfl) ?_
  obtain ⟨r7, h7, h⟩ := bd_some h
  refine wk_Vi (As := [.int (nI 1), .ref h_p0_onDisk, .int x2]) (rest := []) (wc := (w_R cI cZ h_p0 h_p0_m h_p0_d h_p0_fresh h_p0_young h_p0_dropped h_p0_released h_p0_owed h_p0_counted h_p0_inMemory h_p0_onDisk h_p0_thn mem dsk fresh young dropped released owed counted inMemory onDisk thn moved)) (w1 := (w_R cI cZ h_p0 h_p0_m h_p0_d h_p0_fresh h_p0_young h_p0_dropped h_p0_released h_p0_owed h_p0_counted h_p0_inMemory h_p0_onDisk h_p0_thn mem dsk fresh young dropped released owed counted inMemory onDisk thn moved)) (wr := []) (wz := (w_R cI cZ h_p0 h_p0_m h_p0_d h_p0_fresh h_p0_young h_p0_dropped h_p0_released h_p0_owed h_p0_counted h_p0_inMemory h_p0_onDisk h_p0_thn mem dsk fresh young dropped released owed counted inMemory onDisk thn moved)) cf hK hN hA (c_R_entriesFor_onDisk l D cI cZ h_p0 h_p0_m h_p0_d h_p0_fresh h_p0_young h_p0_dropped h_p0_released h_p0_owed h_p0_counted h_p0_inMemory h_p0_onDisk h_p0_thn F mem dsk fresh young dropped released owed counted inMemory onDisk thn moved (nI 1) x2 r7 h7) k_R_169 ⟨rfl, rfl, by decide, by decide⟩ 2 rfl rfl rfl hl hP hD hS [0, 1, 2, 3, 4, 5, 6, 7, 8, 9, 10, 11] [] [0, 1, 2, 3, 4, 5, 6, 7, 8, 9, 10, 11] rfl rfl rfl (by decide) rfl rfl rfl rfl rfl (Nat.le_of_ble_eq_true rfl) rfl d_R_defectsOfInode_7 (fun H locs hP hD hS => ?_)
  refine lv_istore_n (lv' := [(3, .int r7), (0, .ref h_p0), (1, .int x1), (2, .int x2)]) hx hb d_R_defectsOfInode_10 rfl hl (by decide) rfl (fun ls hl => ?_)
  refine lv_aload_n hx hb d_R_defectsOfInode_11 rfl (lv_at hl 1 rfl) ?_
  refine va_get (D := D) (ci := 2) (v := .ref h_p0_d) (C := R_R) (T := F_R) (N := 12) hx hb ht in_R hown hK hP 0 rfl rfl 1 (by decide) (ht _ f_R_13) (fun _ h9 => h9) rfl d_R_defectsOfInode_12 ?_
  refine lv_iload_n hx hb d_R_defectsOfInode_15 rfl (lv_at hl 3 rfl) ?_
  refine lv_iconst (v := (nI 1)) hx hb d_R_defectsOfInode_16 (by decide) ?_
  obtain ⟨r17, h17, h⟩ := bd_some h
  refine wk_Si (As := [.int x2, .int (nI 1)]) (rest := [.ref h_p0_d]) (wc := []) (w1 := []) (wr := [(h_p0, .inr (2, [.ref h_p0_m, .ref h_p0_d, .ref h_p0_fresh, .ref h_p0_young, .ref h_p0_dropped, .ref h_p0_released, .ref h_p0_owed, .ref h_p0_counted, .ref h_p0_inMemory, .ref h_p0_onDisk, .ref h_p0_thn, .int moved])), (h_p0_m, .inl (cI, 1080, .inl mem)), (h_p0_d, .inl (cI, 1080, .inl dsk)), (h_p0_fresh, .inl (cZ, 36, .inl fresh)), (h_p0_young, .inl (cZ, 288, .inl young)), (h_p0_dropped, .inl (cI, 36, .inl dropped)), (h_p0_released, .inl (cZ, 18, .inl released)), (h_p0_owed, .inl (cI, 18, .inl owed)), (h_p0_counted, .inl (cI, 18, .inl counted)), (h_p0_inMemory, .inl (cZ, 18, .inl inMemory)), (h_p0_onDisk, .inl (cZ, 18, .inl onDisk)), (h_p0_thn, .inl (cZ, 18, .inl thn))]) (wz := (w_R cI cZ h_p0 h_p0_m h_p0_d h_p0_fresh h_p0_young h_p0_dropped h_p0_released h_p0_owed h_p0_counted h_p0_inMemory h_p0_onDisk h_p0_thn mem dsk fresh young dropped released owed counted inMemory onDisk thn moved)) cf hK hN hA (c_R_at l D cI cZ 0 x2 (nI 1) r17 h17) k_R_44 ⟨rfl, rfl, by decide, by decide⟩ hl hP hD hS [] [0, 1, 2, 3, 4, 5, 6, 7, 8, 9, 10, 11] [0, 1, 2, 3, 4, 5, 6, 7, 8, 9, 10, 11] rfl rfl rfl (by decide) rfl rfl rfl rfl rfl (Nat.le_of_ble_eq_true rfl) rfl d_R_defectsOfInode_17 (fun H locs hP hD hS => ?_)
  obtain ⟨hin, h⟩ := gr_some h
  refine va_iald hx hb hK hP 2 0 rfl rfl hin d_R_defectsOfInode_20 ?_
  generalize dsk r17.toNatClampNeg = v20 at h ⊢
  refine lv_istore (lv' := [(4, .int v20), (3, .int r7), (0, .ref h_p0), (1, .int x1), (2, .int x2)]) hx hb d_R_defectsOfInode_21 hl (by decide) rfl (fun ls hl => ?_)
  refine lv_aload_n hx hb d_R_defectsOfInode_23 rfl (lv_at hl 2 rfl) ?_
  refine va_get (D := D) (ci := 2) (v := .ref h_p0_d) (C := R_R) (T := F_R) (N := 12) hx hb ht in_R hown hK hP 0 rfl rfl 1 (by decide) (ht _ f_R_13) (fun _ h9 => h9) rfl d_R_defectsOfInode_24 ?_
  refine lv_iload_n hx hb d_R_defectsOfInode_27 rfl (lv_at hl 4 rfl) ?_
  refine lv_iconst (v := (nI 0)) hx hb d_R_defectsOfInode_28 (by decide) ?_
  obtain ⟨r29, h29, h⟩ := bd_some h
  refine wk_Si (As := [.int x2, .int (nI 0)]) (rest := [.ref h_p0_d]) (wc := []) (w1 := []) (wr := [(h_p0, .inr (2, [.ref h_p0_m, .ref h_p0_d, .ref h_p0_fresh, .ref h_p0_young, .ref h_p0_dropped, .ref h_p0_released, .ref h_p0_owed, .ref h_p0_counted, .ref h_p0_inMemory, .ref h_p0_onDisk, .ref h_p0_thn, .int moved])), (h_p0_m, .inl (cI, 1080, .inl mem)), (h_p0_d, .inl (cI, 1080, .inl dsk)), (h_p0_fresh, .inl (cZ, 36, .inl fresh)), (h_p0_young, .inl (cZ, 288, .inl young)), (h_p0_dropped, .inl (cI, 36, .inl dropped)), (h_p0_released, .inl (cZ, 18, .inl released)), (h_p0_owed, .inl (cI, 18, .inl owed)), (h_p0_counted, .inl (cI, 18, .inl counted)), (h_p0_inMemory, .inl (cZ, 18, .inl inMemory)), (h_p0_onDisk, .inl (cZ, 18, .inl onDisk)), (h_p0_thn, .inl (cZ, 18, .inl thn))]) (wz := (w_R cI cZ h_p0 h_p0_m h_p0_d h_p0_fresh h_p0_young h_p0_dropped h_p0_released h_p0_owed h_p0_counted h_p0_inMemory h_p0_onDisk h_p0_thn mem dsk fresh young dropped released owed counted inMemory onDisk thn moved)) cf hK hN hA (c_R_at l D cI cZ 0 x2 (nI 0) r29 h29) k_R_44 ⟨rfl, rfl, by decide, by decide⟩ hl hP hD hS [] [0, 1, 2, 3, 4, 5, 6, 7, 8, 9, 10, 11] [0, 1, 2, 3, 4, 5, 6, 7, 8, 9, 10, 11] rfl rfl rfl (by decide) rfl rfl rfl rfl rfl (Nat.le_of_ble_eq_true rfl) rfl d_R_defectsOfInode_29 (fun H locs hP hD hS => ?_)
  obtain ⟨hin, h⟩ := gr_some h
  refine va_iald hx hb hK hP 2 0 rfl rfl hin d_R_defectsOfInode_32 ?_
  generalize dsk r29.toNatClampNeg = v32 at h ⊢
  refine lv_if_eq hx hb d_R_defectsOfInode_33 rfl (fun hc => ?_) (fun hc => ?_)
  · rw [if_pos hc] at h
    exact w_R_defectsOfInode_48 h_p0 h_p0_m h_p0_d h_p0_fresh h_p0_young h_p0_dropped h_p0_released h_p0_owed h_p0_counted h_p0_inMemory h_p0_onDisk h_p0_thn F mem dsk fresh young dropped released owed counted inMemory onDisk thn moved r ⟨cf, hr, hlk, hK, hN, hA⟩ x1 x2 r7 v20 h H locs ls (lv_sub hl [2, 3, 4, 1, 0] rfl) hP hD hS
  · rw [if_neg hc] at h
    refine lv_aload_n hx hb d_R_defectsOfInode_36 rfl (lv_at hl 2 rfl) ?_
    refine va_get (D := D) (ci := 2) (v := .ref h_p0_d) (C := R_R) (T := F_R) (N := 12) hx hb ht in_R hown hK hP 0 rfl rfl 1 (by decide) (ht _ f_R_13) (fun _ h9 => h9) rfl d_R_defectsOfInode_37 ?_
    refine lv_iload_n hx hb d_R_defectsOfInode_40 rfl (lv_at hl 4 rfl) ?_
    obtain ⟨r41, h41, h⟩ := bd_some h
    refine wk_Si (As := [.int x2]) (rest := [.ref h_p0_d]) (wc := []) (w1 := []) (wr := [(h_p0, .inr (2, [.ref h_p0_m, .ref h_p0_d, .ref h_p0_fresh, .ref h_p0_young, .ref h_p0_dropped, .ref h_p0_released, .ref h_p0_owed, .ref h_p0_counted, .ref h_p0_inMemory, .ref h_p0_onDisk, .ref h_p0_thn, .int moved])), (h_p0_m, .inl (cI, 1080, .inl mem)), (h_p0_d, .inl (cI, 1080, .inl dsk)), (h_p0_fresh, .inl (cZ, 36, .inl fresh)), (h_p0_young, .inl (cZ, 288, .inl young)), (h_p0_dropped, .inl (cI, 36, .inl dropped)), (h_p0_released, .inl (cZ, 18, .inl released)), (h_p0_owed, .inl (cI, 18, .inl owed)), (h_p0_counted, .inl (cI, 18, .inl counted)), (h_p0_inMemory, .inl (cZ, 18, .inl inMemory)), (h_p0_onDisk, .inl (cZ, 18, .inl onDisk)), (h_p0_thn, .inl (cZ, 18, .inl thn))]) (wz := (w_R cI cZ h_p0 h_p0_m h_p0_d h_p0_fresh h_p0_young h_p0_dropped h_p0_released h_p0_owed h_p0_counted h_p0_inMemory h_p0_onDisk h_p0_thn mem dsk fresh young dropped released owed counted inMemory onDisk thn moved)) cf hK hN hA (c_R_markOfInode l D cI cZ 0 x2 r41 h41) k_R_48 ⟨rfl, rfl, by decide, by decide⟩ hl hP hD hS [] [0, 1, 2, 3, 4, 5, 6, 7, 8, 9, 10, 11] [0, 1, 2, 3, 4, 5, 6, 7, 8, 9, 10, 11] rfl rfl rfl (by decide) rfl rfl rfl rfl rfl (Nat.le_of_ble_eq_true rfl) rfl d_R_defectsOfInode_41 (fun H locs hP hD hS => ?_)
    obtain ⟨hin, h⟩ := gr_some h
    refine va_iald hx hb hK hP 2 0 rfl rfl hin d_R_defectsOfInode_44 ?_
    generalize dsk r41.toNatClampNeg = v44 at h ⊢
    refine lv_if_ne hx hb d_R_defectsOfInode_45 rfl (fun hc => ?_) (fun hc => ?_)
    · rw [if_neg hc] at h
      refine lv_iconst (v := (nI 0)) hx hb d_R_defectsOfInode_52 (by decide) ?_
      exact w_R_defectsOfInode_53 h_p0 h_p0_m h_p0_d h_p0_fresh h_p0_young h_p0_dropped h_p0_released h_p0_owed h_p0_counted h_p0_inMemory h_p0_onDisk h_p0_thn F mem dsk fresh young dropped released owed counted inMemory onDisk thn moved r ⟨cf, hr, hlk, hK, hN, hA⟩ x1 x2 r7 v20 (nI 0) h H locs ls (lv_sub hl [2, 3, 4, 1, 0] rfl) hP hD hS
    · rw [if_pos hc] at h
      exact w_R_defectsOfInode_48 h_p0 h_p0_m h_p0_d h_p0_fresh h_p0_young h_p0_dropped h_p0_released h_p0_owed h_p0_counted h_p0_inMemory h_p0_onDisk h_p0_thn F mem dsk fresh young dropped released owed counted inMemory onDisk thn moved r ⟨cf, hr, hlk, hK, hN, hA⟩ x1 x2 r7 v20 h H locs ls (lv_sub hl [2, 3, 4, 1, 0] rfl) hP hD hS
set_option maxHeartbeats 4000000 in
set_option maxRecDepth 100000 in
theorem w_R_pointersTo_onDisk_60 {p : Program} {l : Launch} {e : Env} {s : State} {m : MethodId} {args : Array Value} {below : List Frame} {meth : Method} {c : Code} {D : va_G} {cI cZ : ClassId} {A : Nat → Prop} (h_p0 h_p0_m h_p0_d h_p0_fresh h_p0_young h_p0_dropped h_p0_released h_p0_owed h_p0_counted h_p0_inMemory h_p0_onDisk h_p0_thn : Nat) (F : Nat) (mem : (Nat → Int32)) (dsk : (Nat → Int32)) (fresh : (Nat → Int32)) (young : (Nat → Int32)) (dropped : (Nat → Int32)) (released : (Nat → Int32)) (owed : (Nat → Int32)) (counted : (Nat → Int32)) (inMemory : (Nat → Int32)) (onDisk : (Nat → Int32)) (thn : (Nat → Int32)) (moved : Int32) (r : Int32) (k6 : Int32 → Int32 → Int32 → Int32 → Option (Int32)) (k16 : Int32 → Int32 → Int32 → Int32 → Int32 → Option (Int32)) (cx : cx_ok p s m args meth c b_R_pointersTo 8 o_R_pointersTo "OrderedVolumeModel" (some .int) D cI cZ A) (h6 : (∀ (x1 : Int32) (x3 : Int32) (x4 : Int32) (x5 : Int32), k6 x1 x3 x4 x5 = some r → wk_G p l e rm_R_pointersTo s m args below meth c (sc_Qi below args s D cI cZ A (w_R cI cZ h_p0 h_p0_m h_p0_d h_p0_fresh h_p0_young h_p0_dropped h_p0_released h_p0_owed h_p0_counted h_p0_inMemory h_p0_onDisk h_p0_thn mem dsk fresh young dropped released owed counted inMemory onDisk thn moved) r) D A 8 6 [] [(0, .ref h_p0), (2, .ref h_p0_onDisk), (1, .int x1), (3, .int x3), (4, .int x4), (5, .int x5)] (w_R cI cZ h_p0 h_p0_m h_p0_d h_p0_fresh h_p0_young h_p0_dropped h_p0_released h_p0_owed h_p0_counted h_p0_inMemory h_p0_onDisk h_p0_thn mem dsk fresh young dropped released owed counted inMemory onDisk thn moved))) (h16 : (∀ (x1 : Int32) (x3 : Int32) (x4 : Int32) (x5 : Int32) (x6 : Int32), k16 x1 x3 x4 x5 x6 = some r → wk_G p l e rm_R_pointersTo s m args below meth c (sc_Qi below args s D cI cZ A (w_R cI cZ h_p0 h_p0_m h_p0_d h_p0_fresh h_p0_young h_p0_dropped h_p0_released h_p0_owed h_p0_counted h_p0_inMemory h_p0_onDisk h_p0_thn mem dsk fresh young dropped released owed counted inMemory onDisk thn moved) r) D A 8 16 [] [(0, .ref h_p0), (2, .ref h_p0_onDisk), (1, .int x1), (3, .int x3), (4, .int x4), (5, .int x5), (6, .int x6)] (w_R cI cZ h_p0 h_p0_m h_p0_d h_p0_fresh h_p0_young h_p0_dropped h_p0_released h_p0_owed h_p0_counted h_p0_inMemory h_p0_onDisk h_p0_thn mem dsk fresh young dropped released owed counted inMemory onDisk thn moved))) : ∀ (x1 : Int32) (x3 : Int32) (x4 : Int32) (x5 : Int32) (x6 : Int32) (t0 : Int32), s_R_pointersTo_onDisk_60 F mem dsk onDisk k6 k16 x1 x3 x4 x5 x6 t0 = some r → wk_G p l e rm_R_pointersTo s m args below meth c (sc_Qi below args s D cI cZ A (w_R cI cZ h_p0 h_p0_m h_p0_d h_p0_fresh h_p0_young h_p0_dropped h_p0_released h_p0_owed h_p0_counted h_p0_inMemory h_p0_onDisk h_p0_thn mem dsk fresh young dropped released owed counted inMemory onDisk thn moved) r) D A 8 60 [.int t0] [(0, .ref h_p0), (2, .ref h_p0_onDisk), (1, .int x1), (3, .int x3), (4, .int x4), (5, .int x5), (6, .int x6)] (w_R cI cZ h_p0 h_p0_m h_p0_d h_p0_fresh h_p0_young h_p0_dropped h_p0_released h_p0_owed h_p0_counted h_p0_inMemory h_p0_onDisk h_p0_thn mem dsk fresh young dropped released owed counted inMemory onDisk thn moved) := by
  obtain ⟨cf, hr, hlk, hK, hN, hA⟩ := cx
  have hx := cf.1
  have hb := cf.2.1
  have hown := cf.2.2.2.1
  have ht : ∀ w ∈ wA, w.before args s = true := fun w h => cf.2.2.2.2 w (List.mem_cons_of_mem _ h)
  intro x1 x3 x4 x5 x6 t0 h H locs ls hl hP hD hS
  unfold s_R_pointersTo_onDisk_60 at h
  refine lv_istore (lv' := [(7, .int t0), (0, .ref h_p0), (2, .ref h_p0_onDisk), (1, .int x1), (3, .int x3), (4, .int x4), (5, .int x5), (6, .int x6)]) hx hb d_R_pointersTo_60 hl (by decide) rfl (fun ls hl => ?_)
  refine lv_iload hx hb d_R_pointersTo_62 (lv_at hl 0 rfl) ?_
  refine lv_iload_n hx hb d_R_pointersTo_64 rfl (lv_at hl 4 rfl) ?_
  refine lv_icmp_ne hx hb d_R_pointersTo_65 rfl (fun hc => ?_) (fun hc => ?_)
  · rw [if_neg hc] at h
    refine lv_iload hx hb d_R_pointersTo_75 (lv_at hl 5 rfl) ?_
    refine lv_istore (lv' := [(4, .int x4), (7, .int t0), (0, .ref h_p0), (2, .ref h_p0_onDisk), (1, .int x1), (3, .int x3), (5, .int x5), (6, .int x6)]) hx hb d_R_pointersTo_77 hl (by decide) rfl (fun ls hl => ?_)
    refine lv_iinc (k := 7) (v := (x6 + (nI 1))) (lv' := [(6, .int (x6 + (nI 1))), (4, .int x4), (7, .int t0), (0, .ref h_p0), (2, .ref h_p0_onDisk), (1, .int x1), (3, .int x3), (5, .int x5)]) hx hb d_R_pointersTo_79 hl rfl rfl (by decide) rfl (fun ls hl => ?_)
    refine lv_goto hx hb d_R_pointersTo_82 rfl ?_
    exact h16 x1 x3 x4 x5 (x6 + (nI 1)) h H locs ls (lv_sub hl [3, 4, 5, 6, 1, 7, 0] rfl) hP hD hS
  · rw [if_pos hc] at h
    refine lv_iload hx hb d_R_pointersTo_68 (lv_at hl 5 rfl) ?_
    refine lv_iconst (v := (nI 1)) hx hb d_R_pointersTo_70 (by decide) ?_
    refine lv_iadd hx hb d_R_pointersTo_71 ?_
    refine lv_goto hx hb d_R_pointersTo_72 rfl ?_
    refine lv_istore (lv' := [(4, .int (x4 + (nI 1))), (7, .int t0), (0, .ref h_p0), (2, .ref h_p0_onDisk), (1, .int x1), (3, .int x3), (5, .int x5), (6, .int x6)]) hx hb d_R_pointersTo_77 hl (by decide) rfl (fun ls hl => ?_)
    refine lv_iinc (k := 7) (v := (x6 + (nI 1))) (lv' := [(6, .int (x6 + (nI 1))), (4, .int (x4 + (nI 1))), (7, .int t0), (0, .ref h_p0), (2, .ref h_p0_onDisk), (1, .int x1), (3, .int x3), (5, .int x5)]) hx hb d_R_pointersTo_79 hl rfl rfl (by decide) rfl (fun ls hl => ?_)
    refine lv_goto hx hb d_R_pointersTo_82 rfl ?_
    exact h16 x1 x3 (x4 + (nI 1)) x5 (x6 + (nI 1)) h H locs ls (lv_sub hl [3, 4, 5, 6, 1, 7, 0] rfl) hP hD hS
set_option maxHeartbeats 4000000 in
set_option maxRecDepth 100000 in
theorem w_R_pointersTo_onDisk_16 {p : Program} {l : Launch} {e : Env} {s : State} {m : MethodId} {args : Array Value} {below : List Frame} {meth : Method} {c : Code} {D : va_G} {cI cZ : ClassId} {A : Nat → Prop} (h_p0 h_p0_m h_p0_d h_p0_fresh h_p0_young h_p0_dropped h_p0_released h_p0_owed h_p0_counted h_p0_inMemory h_p0_onDisk h_p0_thn : Nat) (F : Nat) (mem : (Nat → Int32)) (dsk : (Nat → Int32)) (fresh : (Nat → Int32)) (young : (Nat → Int32)) (dropped : (Nat → Int32)) (released : (Nat → Int32)) (owed : (Nat → Int32)) (counted : (Nat → Int32)) (inMemory : (Nat → Int32)) (onDisk : (Nat → Int32)) (thn : (Nat → Int32)) (moved : Int32) (r : Int32) (k6 : Int32 → Int32 → Int32 → Int32 → Option (Int32)) (cx : cx_ok p s m args meth c b_R_pointersTo 8 o_R_pointersTo "OrderedVolumeModel" (some .int) D cI cZ A) (h6 : (∀ (x1 : Int32) (x3 : Int32) (x4 : Int32) (x5 : Int32), k6 x1 x3 x4 x5 = some r → wk_G p l e rm_R_pointersTo s m args below meth c (sc_Qi below args s D cI cZ A (w_R cI cZ h_p0 h_p0_m h_p0_d h_p0_fresh h_p0_young h_p0_dropped h_p0_released h_p0_owed h_p0_counted h_p0_inMemory h_p0_onDisk h_p0_thn mem dsk fresh young dropped released owed counted inMemory onDisk thn moved) r) D A 8 6 [] [(0, .ref h_p0), (2, .ref h_p0_onDisk), (1, .int x1), (3, .int x3), (4, .int x4), (5, .int x5)] (w_R cI cZ h_p0 h_p0_m h_p0_d h_p0_fresh h_p0_young h_p0_dropped h_p0_released h_p0_owed h_p0_counted h_p0_inMemory h_p0_onDisk h_p0_thn mem dsk fresh young dropped released owed counted inMemory onDisk thn moved))) : ∀ (n : Nat) (x1 : Int32) (x3 : Int32) (x4 : Int32) (x5 : Int32) (x6 : Int32), s_R_pointersTo_onDisk_16 F mem dsk onDisk k6 n x1 x3 x4 x5 x6 = some r → wk_G p l e rm_R_pointersTo s m args below meth c (sc_Qi below args s D cI cZ A (w_R cI cZ h_p0 h_p0_m h_p0_d h_p0_fresh h_p0_young h_p0_dropped h_p0_released h_p0_owed h_p0_counted h_p0_inMemory h_p0_onDisk h_p0_thn mem dsk fresh young dropped released owed counted inMemory onDisk thn moved) r) D A 8 16 [] [(0, .ref h_p0), (2, .ref h_p0_onDisk), (1, .int x1), (3, .int x3), (4, .int x4), (5, .int x5), (6, .int x6)] (w_R cI cZ h_p0 h_p0_m h_p0_d h_p0_fresh h_p0_young h_p0_dropped h_p0_released h_p0_owed h_p0_counted h_p0_inMemory h_p0_onDisk h_p0_thn mem dsk fresh young dropped released owed counted inMemory onDisk thn moved) := by
  obtain ⟨cf, hr, hlk, hK, hN, hA⟩ := cx
  have hx := cf.1
  have hb := cf.2.1
  have hown := cf.2.2.2.1
  have ht : ∀ w ∈ wA, w.before args s = true := fun w h => cf.2.2.2.2 w (List.mem_cons_of_mem _ h)
  intro n
  induction n with
  | zero => intro x1 x3 x4 x5 x6 h; cases (show (none : Option (Int32)) = some _ from h)
  | succ n ih =>
    intro x1 x3 x4 x5 x6 h H locs ls hl hP hD hS
    unfold s_R_pointersTo_onDisk_16 at h
    refine lv_iload hx hb d_R_pointersTo_16 (lv_at hl 6 rfl) ?_
    refine lv_iconst (v := (nI 5)) hx hb d_R_pointersTo_18 (by decide) ?_
    refine lv_icmp_ge hx hb d_R_pointersTo_19 rfl (fun hc => ?_) (fun hc => ?_)
    · rw [if_pos hc] at h
      refine lv_iinc (k := 5) (v := (x5 + (nI 1))) (lv' := [(5, .int (x5 + (nI 1))), (0, .ref h_p0), (2, .ref h_p0_onDisk), (1, .int x1), (3, .int x3), (4, .int x4), (6, .int x6)]) hx hb d_R_pointersTo_85 hl rfl rfl (by decide) rfl (fun ls hl => ?_)
      refine lv_goto hx hb d_R_pointersTo_88 rfl ?_
      exact h6 x1 x3 x4 (x5 + (nI 1)) h H locs ls (lv_sub hl [1, 2, 3, 4, 5, 0] rfl) hP hD hS
    · rw [if_neg hc] at h
      refine lv_aload_n hx hb d_R_pointersTo_22 rfl (lv_at hl 1 rfl) ?_
      refine lv_iload hx hb d_R_pointersTo_23 (lv_at hl 5 rfl) ?_
      obtain ⟨hin, h⟩ := gr_some h
      refine va_zald hx hb hK hP 10 1 rfl rfl hin d_R_pointersTo_25 ?_
      generalize onDisk x5.toNatClampNeg = v25 at h ⊢
      refine lv_if_eq hx hb d_R_pointersTo_26 rfl (fun hc => ?_) (fun hc => ?_)
      · rw [if_pos hc] at h
        refine lv_iinc (k := 5) (v := (x5 + (nI 1))) (lv' := [(5, .int (x5 + (nI 1))), (0, .ref h_p0), (2, .ref h_p0_onDisk), (1, .int x1), (3, .int x3), (4, .int x4), (6, .int x6)]) hx hb d_R_pointersTo_85 hl rfl rfl (by decide) rfl (fun ls hl => ?_)
        refine lv_goto hx hb d_R_pointersTo_88 rfl ?_
        exact h6 x1 x3 x4 (x5 + (nI 1)) h H locs ls (lv_sub hl [1, 2, 3, 4, 5, 0] rfl) hP hD hS
      · rw [if_neg hc] at h
        refine lv_iload_n hx hb d_R_pointersTo_29 rfl (lv_at hl 2 rfl) ?_
        refine lv_if_eq hx hb d_R_pointersTo_30 rfl (fun hc => ?_) (fun hc => ?_)
        · rw [if_pos hc] at h
          refine lv_aload_n hx hb d_R_pointersTo_48 rfl (lv_at hl 0 rfl) ?_
          refine va_get (D := D) (ci := 2) (v := .ref h_p0_m) (C := R_R) (T := F_R) (N := 12) hx hb ht in_R hown hK hP 0 rfl rfl 0 (by decide) (ht _ f_R_7) (fun _ h9 => h9) rfl d_R_pointersTo_49 ?_
          refine lv_iload hx hb d_R_pointersTo_52 (lv_at hl 5 rfl) ?_
          refine lv_iload hx hb d_R_pointersTo_54 (lv_at hl 6 rfl) ?_
          obtain ⟨r56, h56, h⟩ := bd_some h
          refine wk_Si (As := [.int x5, .int x6]) (rest := [.ref h_p0_m]) (wc := []) (w1 := []) (wr := [(h_p0, .inr (2, [.ref h_p0_m, .ref h_p0_d, .ref h_p0_fresh, .ref h_p0_young, .ref h_p0_dropped, .ref h_p0_released, .ref h_p0_owed, .ref h_p0_counted, .ref h_p0_inMemory, .ref h_p0_onDisk, .ref h_p0_thn, .int moved])), (h_p0_m, .inl (cI, 1080, .inl mem)), (h_p0_d, .inl (cI, 1080, .inl dsk)), (h_p0_fresh, .inl (cZ, 36, .inl fresh)), (h_p0_young, .inl (cZ, 288, .inl young)), (h_p0_dropped, .inl (cI, 36, .inl dropped)), (h_p0_released, .inl (cZ, 18, .inl released)), (h_p0_owed, .inl (cI, 18, .inl owed)), (h_p0_counted, .inl (cI, 18, .inl counted)), (h_p0_inMemory, .inl (cZ, 18, .inl inMemory)), (h_p0_onDisk, .inl (cZ, 18, .inl onDisk)), (h_p0_thn, .inl (cZ, 18, .inl thn))]) (wz := (w_R cI cZ h_p0 h_p0_m h_p0_d h_p0_fresh h_p0_young h_p0_dropped h_p0_released h_p0_owed h_p0_counted h_p0_inMemory h_p0_onDisk h_p0_thn mem dsk fresh young dropped released owed counted inMemory onDisk thn moved)) cf hK hN hA (c_R_at l D cI cZ 0 x5 x6 r56 h56) k_R_44 ⟨rfl, rfl, by decide, by decide⟩ hl hP hD hS [] [0, 1, 2, 3, 4, 5, 6, 7, 8, 9, 10, 11] [0, 1, 2, 3, 4, 5, 6, 7, 8, 9, 10, 11] rfl rfl rfl (by decide) rfl rfl rfl rfl rfl (Nat.le_of_ble_eq_true rfl) rfl d_R_pointersTo_56 (fun H locs hP hD hS => ?_)
          obtain ⟨hin, h⟩ := gr_some h
          refine va_iald hx hb hK hP 1 0 rfl rfl hin d_R_pointersTo_59 ?_
          generalize mem r56.toNatClampNeg = v59 at h ⊢
          exact w_R_pointersTo_onDisk_60 h_p0 h_p0_m h_p0_d h_p0_fresh h_p0_young h_p0_dropped h_p0_released h_p0_owed h_p0_counted h_p0_inMemory h_p0_onDisk h_p0_thn F mem dsk fresh young dropped released owed counted inMemory onDisk thn moved r _ _ ⟨cf, hr, hlk, hK, hN, hA⟩ h6 ih x1 x3 x4 x5 x6 v59 h H locs ls (lv_sub hl [0, 1, 2, 3, 4, 5, 6] rfl) hP hD hS
        · rw [if_neg hc] at h
          refine lv_aload_n hx hb d_R_pointersTo_33 rfl (lv_at hl 0 rfl) ?_
          refine va_get (D := D) (ci := 2) (v := .ref h_p0_d) (C := R_R) (T := F_R) (N := 12) hx hb ht in_R hown hK hP 0 rfl rfl 1 (by decide) (ht _ f_R_13) (fun _ h9 => h9) rfl d_R_pointersTo_34 ?_
          refine lv_iload hx hb d_R_pointersTo_37 (lv_at hl 5 rfl) ?_
          refine lv_iload hx hb d_R_pointersTo_39 (lv_at hl 6 rfl) ?_
          obtain ⟨r41, h41, h⟩ := bd_some h
          refine wk_Si (As := [.int x5, .int x6]) (rest := [.ref h_p0_d]) (wc := []) (w1 := []) (wr := [(h_p0, .inr (2, [.ref h_p0_m, .ref h_p0_d, .ref h_p0_fresh, .ref h_p0_young, .ref h_p0_dropped, .ref h_p0_released, .ref h_p0_owed, .ref h_p0_counted, .ref h_p0_inMemory, .ref h_p0_onDisk, .ref h_p0_thn, .int moved])), (h_p0_m, .inl (cI, 1080, .inl mem)), (h_p0_d, .inl (cI, 1080, .inl dsk)), (h_p0_fresh, .inl (cZ, 36, .inl fresh)), (h_p0_young, .inl (cZ, 288, .inl young)), (h_p0_dropped, .inl (cI, 36, .inl dropped)), (h_p0_released, .inl (cZ, 18, .inl released)), (h_p0_owed, .inl (cI, 18, .inl owed)), (h_p0_counted, .inl (cI, 18, .inl counted)), (h_p0_inMemory, .inl (cZ, 18, .inl inMemory)), (h_p0_onDisk, .inl (cZ, 18, .inl onDisk)), (h_p0_thn, .inl (cZ, 18, .inl thn))]) (wz := (w_R cI cZ h_p0 h_p0_m h_p0_d h_p0_fresh h_p0_young h_p0_dropped h_p0_released h_p0_owed h_p0_counted h_p0_inMemory h_p0_onDisk h_p0_thn mem dsk fresh young dropped released owed counted inMemory onDisk thn moved)) cf hK hN hA (c_R_at l D cI cZ 0 x5 x6 r41 h41) k_R_44 ⟨rfl, rfl, by decide, by decide⟩ hl hP hD hS [] [0, 1, 2, 3, 4, 5, 6, 7, 8, 9, 10, 11] [0, 1, 2, 3, 4, 5, 6, 7, 8, 9, 10, 11] rfl rfl rfl (by decide) rfl rfl rfl rfl rfl (Nat.le_of_ble_eq_true rfl) rfl d_R_pointersTo_41 (fun H locs hP hD hS => ?_)
          obtain ⟨hin, h⟩ := gr_some h
          refine va_iald hx hb hK hP 2 0 rfl rfl hin d_R_pointersTo_44 ?_
          generalize dsk r41.toNatClampNeg = v44 at h ⊢
          refine lv_goto hx hb d_R_pointersTo_45 rfl ?_
          exact w_R_pointersTo_onDisk_60 h_p0 h_p0_m h_p0_d h_p0_fresh h_p0_young h_p0_dropped h_p0_released h_p0_owed h_p0_counted h_p0_inMemory h_p0_onDisk h_p0_thn F mem dsk fresh young dropped released owed counted inMemory onDisk thn moved r _ _ ⟨cf, hr, hlk, hK, hN, hA⟩ h6 ih x1 x3 x4 x5 x6 v44 h H locs ls (lv_sub hl [0, 1, 2, 3, 4, 5, 6] rfl) hP hD hS
set_option maxHeartbeats 4000000 in
set_option maxRecDepth 100000 in
theorem w_R_pointersTo_onDisk_6 {p : Program} {l : Launch} {e : Env} {s : State} {m : MethodId} {args : Array Value} {below : List Frame} {meth : Method} {c : Code} {D : va_G} {cI cZ : ClassId} {A : Nat → Prop} (h_p0 h_p0_m h_p0_d h_p0_fresh h_p0_young h_p0_dropped h_p0_released h_p0_owed h_p0_counted h_p0_inMemory h_p0_onDisk h_p0_thn : Nat) (F : Nat) (mem : (Nat → Int32)) (dsk : (Nat → Int32)) (fresh : (Nat → Int32)) (young : (Nat → Int32)) (dropped : (Nat → Int32)) (released : (Nat → Int32)) (owed : (Nat → Int32)) (counted : (Nat → Int32)) (inMemory : (Nat → Int32)) (onDisk : (Nat → Int32)) (thn : (Nat → Int32)) (moved : Int32) (r : Int32) (cx : cx_ok p s m args meth c b_R_pointersTo 8 o_R_pointersTo "OrderedVolumeModel" (some .int) D cI cZ A) : ∀ (n : Nat) (x1 : Int32) (x3 : Int32) (x4 : Int32) (x5 : Int32), s_R_pointersTo_onDisk_6 F mem dsk onDisk n x1 x3 x4 x5 = some r → wk_G p l e rm_R_pointersTo s m args below meth c (sc_Qi below args s D cI cZ A (w_R cI cZ h_p0 h_p0_m h_p0_d h_p0_fresh h_p0_young h_p0_dropped h_p0_released h_p0_owed h_p0_counted h_p0_inMemory h_p0_onDisk h_p0_thn mem dsk fresh young dropped released owed counted inMemory onDisk thn moved) r) D A 8 6 [] [(0, .ref h_p0), (2, .ref h_p0_onDisk), (1, .int x1), (3, .int x3), (4, .int x4), (5, .int x5)] (w_R cI cZ h_p0 h_p0_m h_p0_d h_p0_fresh h_p0_young h_p0_dropped h_p0_released h_p0_owed h_p0_counted h_p0_inMemory h_p0_onDisk h_p0_thn mem dsk fresh young dropped released owed counted inMemory onDisk thn moved) := by
  obtain ⟨cf, hr, hlk, hK, hN, hA⟩ := cx
  have hx := cf.1
  have hb := cf.2.1
  have hown := cf.2.2.2.1
  have ht : ∀ w ∈ wA, w.before args s = true := fun w h => cf.2.2.2.2 w (List.mem_cons_of_mem _ h)
  intro n
  induction n with
  | zero => intro x1 x3 x4 x5 h; cases (show (none : Option (Int32)) = some _ from h)
  | succ n ih =>
    intro x1 x3 x4 x5 h H locs ls hl hP hD hS
    unfold s_R_pointersTo_onDisk_6 at h
    refine lv_iload hx hb d_R_pointersTo_6 (lv_at hl 5 rfl) ?_
    refine lv_bipush (v := (nI 18)) hx hb d_R_pointersTo_8 (by decide) ?_
    refine lv_icmp_ge hx hb d_R_pointersTo_10 rfl (fun hc => ?_) (fun hc => ?_)
    · rw [if_pos hc] at h
      refine lv_iload hx hb d_R_pointersTo_91 (lv_at hl 4 rfl) ?_
      cases h
      exact sc_iret cf hr hlk hK hP hD hS d_R_pointersTo_93
    · rw [if_neg hc] at h
      refine lv_iconst (v := (nI 2)) hx hb d_R_pointersTo_13 (by decide) ?_
      refine lv_istore (lv' := [(6, .int (nI 2)), (0, .ref h_p0), (2, .ref h_p0_onDisk), (1, .int x1), (3, .int x3), (4, .int x4), (5, .int x5)]) hx hb d_R_pointersTo_14 hl (by decide) rfl (fun ls hl => ?_)
      exact w_R_pointersTo_onDisk_16 h_p0 h_p0_m h_p0_d h_p0_fresh h_p0_young h_p0_dropped h_p0_released h_p0_owed h_p0_counted h_p0_inMemory h_p0_onDisk h_p0_thn F mem dsk fresh young dropped released owed counted inMemory onDisk thn moved r _ ⟨cf, hr, hlk, hK, hN, hA⟩ ih F x1 x3 x4 x5 (nI 2) h H locs ls (lv_sub hl [1, 2, 3, 4, 5, 6, 0] rfl) hP hD hS
set_option maxHeartbeats 4000000 in
set_option maxRecDepth 100000 in
theorem c_R_pointersTo_onDisk (l : Launch) (D : va_G) (cI cZ : ClassId) (h_p0 h_p0_m h_p0_d h_p0_fresh h_p0_young h_p0_dropped h_p0_released h_p0_owed h_p0_counted h_p0_inMemory h_p0_onDisk h_p0_thn : Nat) (F : Nat) (mem : (Nat → Int32)) (dsk : (Nat → Int32)) (fresh : (Nat → Int32)) (young : (Nat → Int32)) (dropped : (Nat → Int32)) (released : (Nat → Int32)) (owed : (Nat → Int32)) (counted : (Nat → Int32)) (inMemory : (Nat → Int32)) (onDisk : (Nat → Int32)) (thn : (Nat → Int32)) (moved : Int32) (x1 : Int32) (x3 : Int32) (r : Int32) (h : s_R_pointersTo_onDisk F mem dsk onDisk x1 x3 = some r) : sc_i l y_R_pointersTo (o_R_pointersTo :: wA) rm_R_pointersTo D cI cZ [.ref h_p0, .int x1, .ref h_p0_onDisk, .int x3] (w_R cI cZ h_p0 h_p0_m h_p0_d h_p0_fresh h_p0_young h_p0_dropped h_p0_released h_p0_owed h_p0_counted h_p0_inMemory h_p0_onDisk h_p0_thn mem dsk fresh young dropped released owed counted inMemory onDisk thn moved) (w_R cI cZ h_p0 h_p0_m h_p0_d h_p0_fresh h_p0_young h_p0_dropped h_p0_released h_p0_owed h_p0_counted h_p0_inMemory h_p0_onDisk h_p0_thn mem dsk fresh young dropped released owed counted inMemory onDisk thn moved) r := by
  refine sc_i_of (cc := b_R_pointersTo) (maxL := 8) (ret := (some .int)) (by decide) rfl (Nat.le_of_ble_eq_true rfl) ?_
  intro p e s m below meth c A cf hr hlk hK hN hA H locs ls hl hP hD hS
  have hx := cf.1
  have hb := cf.2.1
  have hown := cf.2.2.2.1
  have ht : ∀ w ∈ wA, w.before _ s = true := fun w h => cf.2.2.2.2 w (List.mem_cons_of_mem _ h)
  unfold s_R_pointersTo_onDisk at h
  have hl : lv_has ls 8 [(0, .ref h_p0), (1, .int x1), (2, .ref h_p0_onDisk), (3, .int x3)] := hl
  refine lv_iconst (v := (nI 0)) hx hb d_R_pointersTo_0 (by decide) ?_
  refine lv_istore (lv' := [(4, .int (nI 0)), (0, .ref h_p0), (1, .int x1), (2, .ref h_p0_onDisk), (3, .int x3)]) hx hb d_R_pointersTo_1 hl (by decide) rfl (fun ls hl => ?_)
  refine lv_iconst (v := (nI 0)) hx hb d_R_pointersTo_3 (by decide) ?_
  refine lv_istore (lv' := [(5, .int (nI 0)), (4, .int (nI 0)), (0, .ref h_p0), (1, .int x1), (2, .ref h_p0_onDisk), (3, .int x3)]) hx hb d_R_pointersTo_4 hl (by decide) rfl (fun ls hl => ?_)
  exact w_R_pointersTo_onDisk_6 h_p0 h_p0_m h_p0_d h_p0_fresh h_p0_young h_p0_dropped h_p0_released h_p0_owed h_p0_counted h_p0_inMemory h_p0_onDisk h_p0_thn F mem dsk fresh young dropped released owed counted inMemory onDisk thn moved r ⟨cf, hr, hlk, hK, hN, hA⟩ F x1 x3 (nI 0) (nI 0) h H locs ls (lv_sub hl [2, 4, 3, 5, 1, 0] rfl) hP hD hS
set_option maxHeartbeats 4000000 in
set_option maxRecDepth 100000 in
theorem w_R_defects_142 {p : Program} {l : Launch} {e : Env} {s : State} {m : MethodId} {args : Array Value} {below : List Frame} {meth : Method} {c : Code} {D : va_G} {cI cZ : ClassId} {A : Nat → Prop} (h_p0 h_p0_m h_p0_d h_p0_fresh h_p0_young h_p0_dropped h_p0_released h_p0_owed h_p0_counted h_p0_inMemory h_p0_onDisk h_p0_thn : Nat) (F : Nat) (mem : (Nat → Int32)) (dsk : (Nat → Int32)) (fresh : (Nat → Int32)) (young : (Nat → Int32)) (dropped : (Nat → Int32)) (released : (Nat → Int32)) (owed : (Nat → Int32)) (counted : (Nat → Int32)) (inMemory : (Nat → Int32)) (thn : (Nat → Int32)) (moved : Int32) (onDisk' : (Nat → Int32)) (r : Int32) (k47 : Int32 → Int32 → Int32 → (Nat → Int32) → Option (Int32 × (Nat → Int32))) (cx : cx_ok p s m args meth c b_R_defects 6 o_R_defects "OrderedVolumeModel" (some .int) D cI cZ A) (h47 : (∀ (x1 : Int32) (x2 : Int32) (x3 : Int32) (onDisk : (Nat → Int32)), k47 x1 x2 x3 onDisk = some (r, onDisk') → wk_G p l e rm_R_defects s m args below meth c (sc_Qi below args s D cI cZ A (w_R cI cZ h_p0 h_p0_m h_p0_d h_p0_fresh h_p0_young h_p0_dropped h_p0_released h_p0_owed h_p0_counted h_p0_inMemory h_p0_onDisk h_p0_thn mem dsk fresh young dropped released owed counted inMemory (onDisk') thn moved) r) D A 6 47 [] [(0, .ref h_p0), (1, .int x1), (2, .int x2), (3, .int x3)] (w_R cI cZ h_p0 h_p0_m h_p0_d h_p0_fresh h_p0_young h_p0_dropped h_p0_released h_p0_owed h_p0_counted h_p0_inMemory h_p0_onDisk h_p0_thn mem dsk fresh young dropped released owed counted inMemory onDisk thn moved))) : ∀ (x1 : Int32) (x3 : Int32) (t0 : Int32) (t1 : Int32) (onDisk : (Nat → Int32)), s_R_defects_142 F mem dsk fresh k47 x1 x3 t0 t1 onDisk = some (r, onDisk') → wk_G p l e rm_R_defects s m args below meth c (sc_Qi below args s D cI cZ A (w_R cI cZ h_p0 h_p0_m h_p0_d h_p0_fresh h_p0_young h_p0_dropped h_p0_released h_p0_owed h_p0_counted h_p0_inMemory h_p0_onDisk h_p0_thn mem dsk fresh young dropped released owed counted inMemory (onDisk') thn moved) r) D A 6 142 [.int t1, .int t0] [(0, .ref h_p0), (1, .int x1), (3, .int x3)] (w_R cI cZ h_p0 h_p0_m h_p0_d h_p0_fresh h_p0_young h_p0_dropped h_p0_released h_p0_owed h_p0_counted h_p0_inMemory h_p0_onDisk h_p0_thn mem dsk fresh young dropped released owed counted inMemory onDisk thn moved) := by
  obtain ⟨cf, hr, hlk, hK, hN, hA⟩ := cx
  have hx := cf.1
  have hb := cf.2.1
  have hown := cf.2.2.2.1
  have ht : ∀ w ∈ wA, w.before args s = true := fun w h => cf.2.2.2.2 w (List.mem_cons_of_mem _ h)
  intro x1 x3 t0 t1 onDisk h H locs ls hl hP hD hS
  unfold s_R_defects_142 at h
  refine lv_iadd hx hb d_R_defects_142 ?_
  refine lv_istore_n (lv' := [(2, .int (t0 + t1)), (0, .ref h_p0), (1, .int x1), (3, .int x3)]) hx hb d_R_defects_143 rfl hl (by decide) rfl (fun ls hl => ?_)
  refine lv_iinc (k := 3) (v := (x3 + (nI 1))) (lv' := [(3, .int (x3 + (nI 1))), (2, .int (t0 + t1)), (0, .ref h_p0), (1, .int x1)]) hx hb d_R_defects_144 hl rfl rfl (by decide) rfl (fun ls hl => ?_)
  refine lv_goto hx hb d_R_defects_147 rfl ?_
  exact h47 x1 (t0 + t1) (x3 + (nI 1)) onDisk h H locs ls (lv_sub hl [2, 3, 1, 0] rfl) hP hD hS
set_option maxHeartbeats 4000000 in
set_option maxRecDepth 100000 in
theorem w_R_defects_141 {p : Program} {l : Launch} {e : Env} {s : State} {m : MethodId} {args : Array Value} {below : List Frame} {meth : Method} {c : Code} {D : va_G} {cI cZ : ClassId} {A : Nat → Prop} (h_p0 h_p0_m h_p0_d h_p0_fresh h_p0_young h_p0_dropped h_p0_released h_p0_owed h_p0_counted h_p0_inMemory h_p0_onDisk h_p0_thn : Nat) (F : Nat) (mem : (Nat → Int32)) (dsk : (Nat → Int32)) (fresh : (Nat → Int32)) (young : (Nat → Int32)) (dropped : (Nat → Int32)) (released : (Nat → Int32)) (owed : (Nat → Int32)) (counted : (Nat → Int32)) (inMemory : (Nat → Int32)) (thn : (Nat → Int32)) (moved : Int32) (onDisk' : (Nat → Int32)) (r : Int32) (k47 : Int32 → Int32 → Int32 → (Nat → Int32) → Option (Int32 × (Nat → Int32))) (cx : cx_ok p s m args meth c b_R_defects 6 o_R_defects "OrderedVolumeModel" (some .int) D cI cZ A) (h47 : (∀ (x1 : Int32) (x2 : Int32) (x3 : Int32) (onDisk : (Nat → Int32)), k47 x1 x2 x3 onDisk = some (r, onDisk') → wk_G p l e rm_R_defects s m args below meth c (sc_Qi below args s D cI cZ A (w_R cI cZ h_p0 h_p0_m h_p0_d h_p0_fresh h_p0_young h_p0_dropped h_p0_released h_p0_owed h_p0_counted h_p0_inMemory h_p0_onDisk h_p0_thn mem dsk fresh young dropped released owed counted inMemory (onDisk') thn moved) r) D A 6 47 [] [(0, .ref h_p0), (1, .int x1), (2, .int x2), (3, .int x3)] (w_R cI cZ h_p0 h_p0_m h_p0_d h_p0_fresh h_p0_young h_p0_dropped h_p0_released h_p0_owed h_p0_counted h_p0_inMemory h_p0_onDisk h_p0_thn mem dsk fresh young dropped released owed counted inMemory onDisk thn moved))) : ∀ (x1 : Int32) (x3 : Int32) (t0 : Int32) (onDisk : (Nat → Int32)), s_R_defects_141 F mem dsk fresh k47 x1 x3 t0 onDisk = some (r, onDisk') → wk_G p l e rm_R_defects s m args below meth c (sc_Qi below args s D cI cZ A (w_R cI cZ h_p0 h_p0_m h_p0_d h_p0_fresh h_p0_young h_p0_dropped h_p0_released h_p0_owed h_p0_counted h_p0_inMemory h_p0_onDisk h_p0_thn mem dsk fresh young dropped released owed counted inMemory (onDisk') thn moved) r) D A 6 141 [.int t0] [(0, .ref h_p0), (1, .int x1), (3, .int x3)] (w_R cI cZ h_p0 h_p0_m h_p0_d h_p0_fresh h_p0_young h_p0_dropped h_p0_released h_p0_owed h_p0_counted h_p0_inMemory h_p0_onDisk h_p0_thn mem dsk fresh young dropped released owed counted inMemory onDisk thn moved) := by
  obtain ⟨cf, hr, hlk, hK, hN, hA⟩ := cx
  have hx := cf.1
  have hb := cf.2.1
  have hown := cf.2.2.2.1
  have ht : ∀ w ∈ wA, w.before args s = true := fun w h => cf.2.2.2.2 w (List.mem_cons_of_mem _ h)
  intro x1 x3 t0 onDisk h H locs ls hl hP hD hS
  unfold s_R_defects_141 at h
  refine lv_iconst (v := (nI 0)) hx hb d_R_defects_141 (by decide) ?_
  exact w_R_defects_142 h_p0 h_p0_m h_p0_d h_p0_fresh h_p0_young h_p0_dropped h_p0_released h_p0_owed h_p0_counted h_p0_inMemory h_p0_onDisk h_p0_thn F mem dsk fresh young dropped released owed counted inMemory thn moved onDisk' r _ ⟨cf, hr, hlk, hK, hN, hA⟩ h47 x1 x3 t0 (nI 0) onDisk h H locs ls (lv_sub hl [0, 1, 2] rfl) hP hD hS
set_option maxHeartbeats 4000000 in
set_option maxRecDepth 100000 in
theorem w_R_defects_47 {p : Program} {l : Launch} {e : Env} {s : State} {m : MethodId} {args : Array Value} {below : List Frame} {meth : Method} {c : Code} {D : va_G} {cI cZ : ClassId} {A : Nat → Prop} (h_p0 h_p0_m h_p0_d h_p0_fresh h_p0_young h_p0_dropped h_p0_released h_p0_owed h_p0_counted h_p0_inMemory h_p0_onDisk h_p0_thn : Nat) (F : Nat) (mem : (Nat → Int32)) (dsk : (Nat → Int32)) (fresh : (Nat → Int32)) (young : (Nat → Int32)) (dropped : (Nat → Int32)) (released : (Nat → Int32)) (owed : (Nat → Int32)) (counted : (Nat → Int32)) (inMemory : (Nat → Int32)) (thn : (Nat → Int32)) (moved : Int32) (onDisk' : (Nat → Int32)) (r : Int32) (cx : cx_ok p s m args meth c b_R_defects 6 o_R_defects "OrderedVolumeModel" (some .int) D cI cZ A) : ∀ (n : Nat) (x1 : Int32) (x2 : Int32) (x3 : Int32) (onDisk : (Nat → Int32)), s_R_defects_47 F mem dsk fresh n x1 x2 x3 onDisk = some (r, onDisk') → wk_G p l e rm_R_defects s m args below meth c (sc_Qi below args s D cI cZ A (w_R cI cZ h_p0 h_p0_m h_p0_d h_p0_fresh h_p0_young h_p0_dropped h_p0_released h_p0_owed h_p0_counted h_p0_inMemory h_p0_onDisk h_p0_thn mem dsk fresh young dropped released owed counted inMemory (onDisk') thn moved) r) D A 6 47 [] [(0, .ref h_p0), (1, .int x1), (2, .int x2), (3, .int x3)] (w_R cI cZ h_p0 h_p0_m h_p0_d h_p0_fresh h_p0_young h_p0_dropped h_p0_released h_p0_owed h_p0_counted h_p0_inMemory h_p0_onDisk h_p0_thn mem dsk fresh young dropped released owed counted inMemory onDisk thn moved) := by
  obtain ⟨cf, hr, hlk, hK, hN, hA⟩ := cx
  have hx := cf.1
  have hb := cf.2.1
  have hown := cf.2.2.2.1
  have ht : ∀ w ∈ wA, w.before args s = true := fun w h => cf.2.2.2.2 w (List.mem_cons_of_mem _ h)
  intro n
  induction n with
  | zero => intro x1 x2 x3 onDisk h; cases (show (none : Option (Int32 × (Nat → Int32))) = some _ from h)
  | succ n ih =>
    intro x1 x2 x3 onDisk h H locs ls hl hP hD hS
    unfold s_R_defects_47 at h
    refine lv_iload_n hx hb d_R_defects_47 rfl (lv_at hl 3 rfl) ?_
    refine lv_bipush (v := (nI 36)) hx hb d_R_defects_48 (by decide) ?_
    refine lv_icmp_ge hx hb d_R_defects_50 rfl (fun hc => ?_) (fun hc => ?_)
    · rw [if_pos hc] at h
      refine lv_iload_n hx hb d_R_defects_150 rfl (lv_at hl 2 rfl) ?_
      cases h
      exact sc_iret cf hr hlk hK hP hD hS d_R_defects_151
    · rw [if_neg hc] at h
      refine lv_iload_n hx hb d_R_defects_53 rfl (lv_at hl 1 rfl) ?_
      refine lv_iconst (v := (nI 3)) hx hb d_R_defects_54 (by decide) ?_
      refine lv_icmp_ge hx hb d_R_defects_55 rfl (fun hc => ?_) (fun hc => ?_)
      · rw [if_pos hc] at h
        refine lv_iload_n hx hb d_R_defects_150 rfl (lv_at hl 2 rfl) ?_
        cases h
        exact sc_iret cf hr hlk hK hP hD hS d_R_defects_151
      · rw [if_neg hc] at h
        refine lv_iload_n hx hb d_R_defects_58 rfl (lv_at hl 3 rfl) ?_
        refine lv_bipush (v := (nI 12)) hx hb d_R_defects_59 (by decide) ?_
        refine lv_irem hx hb d_R_defects_61 (by decide) ?_
        refine lv_iconst (v := (nI 1)) hx hb d_R_defects_62 (by decide) ?_
        refine lv_icmp_le hx hb d_R_defects_63 rfl (fun hc => ?_) (fun hc => ?_)
        · rw [if_pos hc] at h
          refine lv_iinc (k := 3) (v := (x3 + (nI 1))) (lv' := [(3, .int (x3 + (nI 1))), (0, .ref h_p0), (1, .int x1), (2, .int x2)]) hx hb d_R_defects_144 hl rfl rfl (by decide) rfl (fun ls hl => ?_)
          refine lv_goto hx hb d_R_defects_147 rfl ?_
          exact ih x1 x2 (x3 + (nI 1)) onDisk h H locs ls (lv_sub hl [1, 2, 3, 0] rfl) hP hD hS
        · rw [if_neg hc] at h
          refine lv_aload_n hx hb d_R_defects_66 rfl (lv_at hl 0 rfl) ?_
          refine lv_iconst (v := (nI 1)) hx hb d_R_defects_67 (by decide) ?_
          refine lv_aload_n hx hb d_R_defects_68 rfl (lv_at hl 0 rfl) ?_
          refine va_get (D := D) (ci := 2) (v := .ref h_p0_onDisk) (C := R_R) (T := F_R) (N := 12) hx hb ht in_R hown hK hP 0 rfl rfl 9 (by decide) (ht _ f_R_38) (fun _ h9 => h9) rfl d_R_defects_69 ?_
          refine lv_iload_n hx hb d_R_defects_72 rfl (lv_at hl 3 rfl) ?_
          obtain ⟨r73, h73, h⟩ := bd_some h
          refine wk_Vi (As := [.int (nI 1), .ref h_p0_onDisk, .int x3]) (rest := []) (wc := (w_R cI cZ h_p0 h_p0_m h_p0_d h_p0_fresh h_p0_young h_p0_dropped h_p0_released h_p0_owed h_p0_counted h_p0_inMemory h_p0_onDisk h_p0_thn mem dsk fresh young dropped released owed counted inMemory onDisk thn moved)) (w1 := (w_R cI cZ h_p0 h_p0_m h_p0_d h_p0_fresh h_p0_young h_p0_dropped h_p0_released h_p0_owed h_p0_counted h_p0_inMemory h_p0_onDisk h_p0_thn mem dsk fresh young dropped released owed counted inMemory onDisk thn moved)) (wr := []) (wz := (w_R cI cZ h_p0 h_p0_m h_p0_d h_p0_fresh h_p0_young h_p0_dropped h_p0_released h_p0_owed h_p0_counted h_p0_inMemory h_p0_onDisk h_p0_thn mem dsk fresh young dropped released owed counted inMemory onDisk thn moved)) cf hK hN hA (c_R_pointersTo_onDisk l D cI cZ h_p0 h_p0_m h_p0_d h_p0_fresh h_p0_young h_p0_dropped h_p0_released h_p0_owed h_p0_counted h_p0_inMemory h_p0_onDisk h_p0_thn F mem dsk fresh young dropped released owed counted inMemory onDisk thn moved (nI 1) x3 r73 h73) k_R_173 ⟨rfl, rfl, by decide, by decide⟩ 2 rfl rfl rfl hl hP hD hS [0, 1, 2, 3, 4, 5, 6, 7, 8, 9, 10, 11] [] [0, 1, 2, 3, 4, 5, 6, 7, 8, 9, 10, 11] rfl rfl rfl (by decide) rfl rfl rfl rfl rfl (Nat.le_of_ble_eq_true rfl) rfl d_R_defects_73 (fun H locs hP hD hS => ?_)
          refine lv_istore (lv' := [(4, .int r73), (0, .ref h_p0), (1, .int x1), (2, .int x2), (3, .int x3)]) hx hb d_R_defects_76 hl (by decide) rfl (fun ls hl => ?_)
          refine lv_aload_n hx hb d_R_defects_78 rfl (lv_at hl 1 rfl) ?_
          refine va_get (D := D) (ci := 2) (v := .ref h_p0_d) (C := R_R) (T := F_R) (N := 12) hx hb ht in_R hown hK hP 0 rfl rfl 1 (by decide) (ht _ f_R_13) (fun _ h9 => h9) rfl d_R_defects_79 ?_
          refine lv_iload_n hx hb d_R_defects_82 rfl (lv_at hl 4 rfl) ?_
          obtain ⟨r83, h83, h⟩ := bd_some h
          refine wk_Si (As := [.int x3]) (rest := [.ref h_p0_d]) (wc := []) (w1 := []) (wr := [(h_p0, .inr (2, [.ref h_p0_m, .ref h_p0_d, .ref h_p0_fresh, .ref h_p0_young, .ref h_p0_dropped, .ref h_p0_released, .ref h_p0_owed, .ref h_p0_counted, .ref h_p0_inMemory, .ref h_p0_onDisk, .ref h_p0_thn, .int moved])), (h_p0_m, .inl (cI, 1080, .inl mem)), (h_p0_d, .inl (cI, 1080, .inl dsk)), (h_p0_fresh, .inl (cZ, 36, .inl fresh)), (h_p0_young, .inl (cZ, 288, .inl young)), (h_p0_dropped, .inl (cI, 36, .inl dropped)), (h_p0_released, .inl (cZ, 18, .inl released)), (h_p0_owed, .inl (cI, 18, .inl owed)), (h_p0_counted, .inl (cI, 18, .inl counted)), (h_p0_inMemory, .inl (cZ, 18, .inl inMemory)), (h_p0_onDisk, .inl (cZ, 18, .inl onDisk)), (h_p0_thn, .inl (cZ, 18, .inl thn))]) (wz := (w_R cI cZ h_p0 h_p0_m h_p0_d h_p0_fresh h_p0_young h_p0_dropped h_p0_released h_p0_owed h_p0_counted h_p0_inMemory h_p0_onDisk h_p0_thn mem dsk fresh young dropped released owed counted inMemory onDisk thn moved)) cf hK hN hA (c_R_markOfBlock l D cI cZ 0 x3 r83 h83) k_R_52 ⟨rfl, rfl, by decide, by decide⟩ hl hP hD hS [] [0, 1, 2, 3, 4, 5, 6, 7, 8, 9, 10, 11] [0, 1, 2, 3, 4, 5, 6, 7, 8, 9, 10, 11] rfl rfl rfl (by decide) rfl rfl rfl rfl rfl (Nat.le_of_ble_eq_true rfl) rfl d_R_defects_83 (fun H locs hP hD hS => ?_)
          obtain ⟨hin, h⟩ := gr_some h
          refine va_iald hx hb hK hP 2 0 rfl rfl hin d_R_defects_86 ?_
          generalize dsk r83.toNatClampNeg = v86 at h ⊢
          refine lv_istore (lv' := [(5, .int v86), (4, .int r73), (0, .ref h_p0), (1, .int x1), (2, .int x2), (3, .int x3)]) hx hb d_R_defects_87 hl (by decide) rfl (fun ls hl => ?_)
          refine lv_iload_n hx hb d_R_defects_89 rfl (lv_at hl 4 rfl) ?_
          refine lv_iload_n hx hb d_R_defects_90 rfl (lv_at hl 3 rfl) ?_
          refine lv_if_ne hx hb d_R_defects_91 rfl (fun hc => ?_) (fun hc => ?_)
          · rw [if_neg hc] at h
            refine lv_iload_n hx hb d_R_defects_108 rfl (lv_at hl 3 rfl) ?_
            refine lv_iconst (v := (nI 1)) hx hb d_R_defects_109 (by decide) ?_
            refine lv_icmp_ne hx hb d_R_defects_110 rfl (fun hc => ?_) (fun hc => ?_)
            · rw [if_neg hc] at h
              refine lv_iload hx hb d_R_defects_127 (lv_at hl 0 rfl) ?_
              refine lv_if_eq hx hb d_R_defects_129 rfl (fun hc => ?_) (fun hc => ?_)
              · rw [if_pos hc] at h
                exact w_R_defects_141 h_p0 h_p0_m h_p0_d h_p0_fresh h_p0_young h_p0_dropped h_p0_released h_p0_owed h_p0_counted h_p0_inMemory h_p0_onDisk h_p0_thn F mem dsk fresh young dropped released owed counted inMemory thn moved onDisk' r _ ⟨cf, hr, hlk, hK, hN, hA⟩ ih x1 x3 x2 onDisk h H locs ls (lv_sub hl [2, 3, 5] rfl) hP hD hS
              · rw [if_neg hc] at h
                refine lv_iload hx hb d_R_defects_132 (lv_at hl 1 rfl) ?_
                refine lv_if_ne hx hb d_R_defects_134 rfl (fun hc => ?_) (fun hc => ?_)
                · rw [if_neg hc] at h
                  exact w_R_defects_141 h_p0 h_p0_m h_p0_d h_p0_fresh h_p0_young h_p0_dropped h_p0_released h_p0_owed h_p0_counted h_p0_inMemory h_p0_onDisk h_p0_thn F mem dsk fresh young dropped released owed counted inMemory thn moved onDisk' r _ ⟨cf, hr, hlk, hK, hN, hA⟩ ih x1 x3 x2 onDisk h H locs ls (lv_sub hl [2, 3, 5] rfl) hP hD hS
                · rw [if_pos hc] at h
                  refine lv_iconst (v := (nI 1)) hx hb d_R_defects_137 (by decide) ?_
                  refine lv_goto hx hb d_R_defects_138 rfl ?_
                  exact w_R_defects_142 h_p0 h_p0_m h_p0_d h_p0_fresh h_p0_young h_p0_dropped h_p0_released h_p0_owed h_p0_counted h_p0_inMemory h_p0_onDisk h_p0_thn F mem dsk fresh young dropped released owed counted inMemory thn moved onDisk' r _ ⟨cf, hr, hlk, hK, hN, hA⟩ ih x1 x3 x2 (nI 1) onDisk h H locs ls (lv_sub hl [2, 3, 5] rfl) hP hD hS
            · rw [if_pos hc] at h
              refine lv_iload hx hb d_R_defects_113 (lv_at hl 1 rfl) ?_
              refine lv_iconst (v := (nI 1)) hx hb d_R_defects_115 (by decide) ?_
              refine lv_icmp_le hx hb d_R_defects_116 rfl (fun hc => ?_) (fun hc => ?_)
              · rw [if_pos hc] at h
                refine lv_iconst (v := (nI 0)) hx hb d_R_defects_123 (by decide) ?_
                refine lv_goto hx hb d_R_defects_124 rfl ?_
                exact w_R_defects_142 h_p0 h_p0_m h_p0_d h_p0_fresh h_p0_young h_p0_dropped h_p0_released h_p0_owed h_p0_counted h_p0_inMemory h_p0_onDisk h_p0_thn F mem dsk fresh young dropped released owed counted inMemory thn moved onDisk' r _ ⟨cf, hr, hlk, hK, hN, hA⟩ ih x1 x3 x2 (nI 0) onDisk h H locs ls (lv_sub hl [2, 3, 5] rfl) hP hD hS
              · rw [if_neg hc] at h
                refine lv_iconst (v := (nI 1)) hx hb d_R_defects_119 (by decide) ?_
                refine lv_goto hx hb d_R_defects_120 rfl ?_
                exact w_R_defects_142 h_p0 h_p0_m h_p0_d h_p0_fresh h_p0_young h_p0_dropped h_p0_released h_p0_owed h_p0_counted h_p0_inMemory h_p0_onDisk h_p0_thn F mem dsk fresh young dropped released owed counted inMemory thn moved onDisk' r _ ⟨cf, hr, hlk, hK, hN, hA⟩ ih x1 x3 x2 (nI 1) onDisk h H locs ls (lv_sub hl [2, 3, 5] rfl) hP hD hS
          · rw [if_pos hc] at h
            refine lv_iload hx hb d_R_defects_94 (lv_at hl 0 rfl) ?_
            refine lv_if_ne hx hb d_R_defects_96 rfl (fun hc => ?_) (fun hc => ?_)
            · rw [if_neg hc] at h
              refine lv_iconst (v := (nI 0)) hx hb d_R_defects_104 (by decide) ?_
              refine lv_goto hx hb d_R_defects_105 rfl ?_
              exact w_R_defects_142 h_p0 h_p0_m h_p0_d h_p0_fresh h_p0_young h_p0_dropped h_p0_released h_p0_owed h_p0_counted h_p0_inMemory h_p0_onDisk h_p0_thn F mem dsk fresh young dropped released owed counted inMemory thn moved onDisk' r _ ⟨cf, hr, hlk, hK, hN, hA⟩ ih x1 x3 x2 (nI 0) onDisk h H locs ls (lv_sub hl [2, 3, 5] rfl) hP hD hS
            · rw [if_pos hc] at h
              refine lv_iload hx hb d_R_defects_99 (lv_at hl 1 rfl) ?_
              refine lv_goto hx hb d_R_defects_101 rfl ?_
              exact w_R_defects_142 h_p0 h_p0_m h_p0_d h_p0_fresh h_p0_young h_p0_dropped h_p0_released h_p0_owed h_p0_counted h_p0_inMemory h_p0_onDisk h_p0_thn F mem dsk fresh young dropped released owed counted inMemory thn moved onDisk' r _ ⟨cf, hr, hlk, hK, hN, hA⟩ ih x1 x3 x2 r73 onDisk h H locs ls (lv_sub hl [2, 3, 5] rfl) hP hD hS
set_option maxHeartbeats 4000000 in
set_option maxRecDepth 100000 in
theorem w_R_defects_24 {p : Program} {l : Launch} {e : Env} {s : State} {m : MethodId} {args : Array Value} {below : List Frame} {meth : Method} {c : Code} {D : va_G} {cI cZ : ClassId} {A : Nat → Prop} (h_p0 h_p0_m h_p0_d h_p0_fresh h_p0_young h_p0_dropped h_p0_released h_p0_owed h_p0_counted h_p0_inMemory h_p0_onDisk h_p0_thn : Nat) (F : Nat) (mem : (Nat → Int32)) (dsk : (Nat → Int32)) (fresh : (Nat → Int32)) (young : (Nat → Int32)) (dropped : (Nat → Int32)) (released : (Nat → Int32)) (owed : (Nat → Int32)) (counted : (Nat → Int32)) (inMemory : (Nat → Int32)) (thn : (Nat → Int32)) (moved : Int32) (onDisk' : (Nat → Int32)) (r : Int32) (cx : cx_ok p s m args meth c b_R_defects 6 o_R_defects "OrderedVolumeModel" (some .int) D cI cZ A) : ∀ (n : Nat) (x1 : Int32) (x2 : Int32) (x3 : Int32) (onDisk : (Nat → Int32)), s_R_defects_24 F mem dsk fresh n x1 x2 x3 onDisk = some (r, onDisk') → wk_G p l e rm_R_defects s m args below meth c (sc_Qi below args s D cI cZ A (w_R cI cZ h_p0 h_p0_m h_p0_d h_p0_fresh h_p0_young h_p0_dropped h_p0_released h_p0_owed h_p0_counted h_p0_inMemory h_p0_onDisk h_p0_thn mem dsk fresh young dropped released owed counted inMemory (onDisk') thn moved) r) D A 6 24 [] [(0, .ref h_p0), (1, .int x1), (2, .int x2), (3, .int x3)] (w_R cI cZ h_p0 h_p0_m h_p0_d h_p0_fresh h_p0_young h_p0_dropped h_p0_released h_p0_owed h_p0_counted h_p0_inMemory h_p0_onDisk h_p0_thn mem dsk fresh young dropped released owed counted inMemory onDisk thn moved) := by
  obtain ⟨cf, hr, hlk, hK, hN, hA⟩ := cx
  have hx := cf.1
  have hb := cf.2.1
  have hown := cf.2.2.2.1
  have ht : ∀ w ∈ wA, w.before args s = true := fun w h => cf.2.2.2.2 w (List.mem_cons_of_mem _ h)
  intro n
  induction n with
  | zero => intro x1 x2 x3 onDisk h; cases (show (none : Option (Int32 × (Nat → Int32))) = some _ from h)
  | succ n ih =>
    intro x1 x2 x3 onDisk h H locs ls hl hP hD hS
    unfold s_R_defects_24 at h
    refine lv_iload_n hx hb d_R_defects_24 rfl (lv_at hl 3 rfl) ?_
    refine lv_bipush (v := (nI 18)) hx hb d_R_defects_25 (by decide) ?_
    refine lv_icmp_ge hx hb d_R_defects_27 rfl (fun hc => ?_) (fun hc => ?_)
    · rw [if_pos hc] at h
      refine lv_iconst (v := (nI 0)) hx hb d_R_defects_45 (by decide) ?_
      refine lv_istore_n (lv' := [(3, .int (nI 0)), (0, .ref h_p0), (1, .int x1), (2, .int x2)]) hx hb d_R_defects_46 rfl hl (by decide) rfl (fun ls hl => ?_)
      exact w_R_defects_47 h_p0 h_p0_m h_p0_d h_p0_fresh h_p0_young h_p0_dropped h_p0_released h_p0_owed h_p0_counted h_p0_inMemory h_p0_onDisk h_p0_thn F mem dsk fresh young dropped released owed counted inMemory thn moved onDisk' r ⟨cf, hr, hlk, hK, hN, hA⟩ F x1 x2 (nI 0) onDisk h H locs ls (lv_sub hl [1, 2, 3, 0] rfl) hP hD hS
    · rw [if_neg hc] at h
      refine lv_iload_n hx hb d_R_defects_30 rfl (lv_at hl 2 rfl) ?_
      refine lv_aload_n hx hb d_R_defects_31 rfl (lv_at hl 0 rfl) ?_
      refine lv_iload_n hx hb d_R_defects_32 rfl (lv_at hl 1 rfl) ?_
      refine lv_iload_n hx hb d_R_defects_33 rfl (lv_at hl 3 rfl) ?_
      obtain ⟨r34, h34, h⟩ := bd_some h
      refine wk_Vi (As := [.int x1, .int x3]) (rest := [.int x2]) (wc := (w_R cI cZ h_p0 h_p0_m h_p0_d h_p0_fresh h_p0_young h_p0_dropped h_p0_released h_p0_owed h_p0_counted h_p0_inMemory h_p0_onDisk h_p0_thn mem dsk fresh young dropped released owed counted inMemory onDisk thn moved)) (w1 := (w_R cI cZ h_p0 h_p0_m h_p0_d h_p0_fresh h_p0_young h_p0_dropped h_p0_released h_p0_owed h_p0_counted h_p0_inMemory h_p0_onDisk h_p0_thn mem dsk fresh young dropped released owed counted inMemory onDisk thn moved)) (wr := []) (wz := (w_R cI cZ h_p0 h_p0_m h_p0_d h_p0_fresh h_p0_young h_p0_dropped h_p0_released h_p0_owed h_p0_counted h_p0_inMemory h_p0_onDisk h_p0_thn mem dsk fresh young dropped released owed counted inMemory onDisk thn moved)) cf hK hN hA (c_R_defectsOfInode l D cI cZ h_p0 h_p0_m h_p0_d h_p0_fresh h_p0_young h_p0_dropped h_p0_released h_p0_owed h_p0_counted h_p0_inMemory h_p0_onDisk h_p0_thn F mem dsk fresh young dropped released owed counted inMemory onDisk thn moved x1 x3 r34 h34) k_R_176 ⟨rfl, rfl, by decide, by decide⟩ 2 rfl rfl rfl hl hP hD hS [0, 1, 2, 3, 4, 5, 6, 7, 8, 9, 10, 11] [] [0, 1, 2, 3, 4, 5, 6, 7, 8, 9, 10, 11] rfl rfl rfl (by decide) rfl rfl rfl rfl rfl (Nat.le_of_ble_eq_true rfl) rfl d_R_defects_34 (fun H locs hP hD hS => ?_)
      refine lv_iadd hx hb d_R_defects_37 ?_
      refine lv_istore_n (lv' := [(2, .int (x2 + r34)), (0, .ref h_p0), (1, .int x1), (3, .int x3)]) hx hb d_R_defects_38 rfl hl (by decide) rfl (fun ls hl => ?_)
      refine lv_iinc (k := 3) (v := (x3 + (nI 1))) (lv' := [(3, .int (x3 + (nI 1))), (2, .int (x2 + r34)), (0, .ref h_p0), (1, .int x1)]) hx hb d_R_defects_39 hl rfl rfl (by decide) rfl (fun ls hl => ?_)
      refine lv_goto hx hb d_R_defects_42 rfl ?_
      exact ih x1 (x2 + r34) (x3 + (nI 1)) onDisk h H locs ls (lv_sub hl [2, 3, 1, 0] rfl) hP hD hS
set_option maxHeartbeats 4000000 in
set_option maxRecDepth 100000 in
theorem c_R_defects (l : Launch) (D : va_G) (cI cZ : ClassId) (h_p0 h_p0_m h_p0_d h_p0_fresh h_p0_young h_p0_dropped h_p0_released h_p0_owed h_p0_counted h_p0_inMemory h_p0_onDisk h_p0_thn : Nat) (F : Nat) (mem : (Nat → Int32)) (dsk : (Nat → Int32)) (fresh : (Nat → Int32)) (young : (Nat → Int32)) (dropped : (Nat → Int32)) (released : (Nat → Int32)) (owed : (Nat → Int32)) (counted : (Nat → Int32)) (inMemory : (Nat → Int32)) (onDisk : (Nat → Int32)) (thn : (Nat → Int32)) (moved : Int32) (onDisk' : (Nat → Int32)) (x1 : Int32) (r : Int32) (h : s_R_defects F mem dsk fresh x1 onDisk = some (r, onDisk')) : sc_i l y_R_defects (o_R_defects :: wA) rm_R_defects D cI cZ [.ref h_p0, .int x1] (w_R cI cZ h_p0 h_p0_m h_p0_d h_p0_fresh h_p0_young h_p0_dropped h_p0_released h_p0_owed h_p0_counted h_p0_inMemory h_p0_onDisk h_p0_thn mem dsk fresh young dropped released owed counted inMemory onDisk thn moved) (w_R cI cZ h_p0 h_p0_m h_p0_d h_p0_fresh h_p0_young h_p0_dropped h_p0_released h_p0_owed h_p0_counted h_p0_inMemory h_p0_onDisk h_p0_thn mem dsk fresh young dropped released owed counted inMemory (onDisk') thn moved) r := by
  refine sc_i_of (cc := b_R_defects) (maxL := 6) (ret := (some .int)) (by decide) rfl (Nat.le_of_ble_eq_true rfl) ?_
  intro p e s m below meth c A cf hr hlk hK hN hA H locs ls hl hP hD hS
  have hx := cf.1
  have hb := cf.2.1
  have hown := cf.2.2.2.1
  have ht : ∀ w ∈ wA, w.before _ s = true := fun w h => cf.2.2.2.2 w (List.mem_cons_of_mem _ h)
  unfold s_R_defects at h
  have hl : lv_has ls 6 [(0, .ref h_p0), (1, .int x1)] := hl
  refine lv_iload_n hx hb d_R_defects_0 rfl (lv_at hl 1 rfl) ?_
  refine lv_if_lt hx hb d_R_defects_1 rfl (fun hc => ?_) (fun hc => ?_)
  · rw [if_pos hc] at h
    refine lv_iconst (v := (-1)) hx hb d_R_defects_9 (by decide) ?_
    cases h
    exact sc_iret cf hr hlk hK hP hD hS d_R_defects_10
  · rw [if_neg hc] at h
    refine lv_iload_n hx hb d_R_defects_4 rfl (lv_at hl 1 rfl) ?_
    refine lv_iconst (v := (nI 5)) hx hb d_R_defects_5 (by decide) ?_
    refine lv_icmp_le hx hb d_R_defects_6 rfl (fun hc => ?_) (fun hc => ?_)
    · rw [if_pos hc] at h
      refine lv_aload_n hx hb d_R_defects_11 rfl (lv_at hl 0 rfl) ?_
      refine lv_iconst (v := (nI 1)) hx hb d_R_defects_12 (by decide) ?_
      refine lv_aload_n hx hb d_R_defects_13 rfl (lv_at hl 0 rfl) ?_
      refine va_get (D := D) (ci := 2) (v := .ref h_p0_onDisk) (C := R_R) (T := F_R) (N := 12) hx hb ht in_R hown hK hP 0 rfl rfl 9 (by decide) (ht _ f_R_38) (fun _ h9 => h9) rfl d_R_defects_14 ?_
      obtain ⟨onDisk_17, h17, h⟩ := bd_some h
      refine wk_Vv (As := [.int (nI 1), .ref h_p0_onDisk]) (rest := []) (wc := (w_R cI cZ h_p0 h_p0_m h_p0_d h_p0_fresh h_p0_young h_p0_dropped h_p0_released h_p0_owed h_p0_counted h_p0_inMemory h_p0_onDisk h_p0_thn mem dsk fresh young dropped released owed counted inMemory onDisk thn moved)) (w1 := (w_R cI cZ h_p0 h_p0_m h_p0_d h_p0_fresh h_p0_young h_p0_dropped h_p0_released h_p0_owed h_p0_counted h_p0_inMemory h_p0_onDisk h_p0_thn mem dsk fresh young dropped released owed counted inMemory onDisk_17 thn moved)) (wr := []) (wz := (w_R cI cZ h_p0 h_p0_m h_p0_d h_p0_fresh h_p0_young h_p0_dropped h_p0_released h_p0_owed h_p0_counted h_p0_inMemory h_p0_onDisk h_p0_thn mem dsk fresh young dropped released owed counted inMemory onDisk_17 thn moved)) cf hK hN hA (c_R_tree_onDisk l D cI cZ h_p0 h_p0_m h_p0_d h_p0_fresh h_p0_young h_p0_dropped h_p0_released h_p0_owed h_p0_counted h_p0_inMemory h_p0_onDisk h_p0_thn F mem dsk fresh young dropped released owed counted inMemory onDisk thn moved onDisk_17 (nI 1) h17) k_R_69 ⟨rfl, rfl, by decide, by decide⟩ 2 rfl rfl rfl hl hP hD hS [0, 1, 2, 3, 4, 5, 6, 7, 8, 9, 10, 11] [] [0, 1, 2, 3, 4, 5, 6, 7, 8, 9, 10, 11] rfl rfl rfl (by decide) rfl rfl rfl rfl rfl (Nat.le_of_ble_eq_true rfl) rfl d_R_defects_17 (fun H locs hP hD hS => ?_)
      refine lv_iconst (v := (nI 0)) hx hb d_R_defects_20 (by decide) ?_
      refine lv_istore_n (lv' := [(2, .int (nI 0)), (0, .ref h_p0), (1, .int x1)]) hx hb d_R_defects_21 rfl hl (by decide) rfl (fun ls hl => ?_)
      refine lv_iconst (v := (nI 0)) hx hb d_R_defects_22 (by decide) ?_
      refine lv_istore_n (lv' := [(3, .int (nI 0)), (2, .int (nI 0)), (0, .ref h_p0), (1, .int x1)]) hx hb d_R_defects_23 rfl hl (by decide) rfl (fun ls hl => ?_)
      exact w_R_defects_24 h_p0 h_p0_m h_p0_d h_p0_fresh h_p0_young h_p0_dropped h_p0_released h_p0_owed h_p0_counted h_p0_inMemory h_p0_onDisk h_p0_thn F mem dsk fresh young dropped released owed counted inMemory thn moved onDisk' r ⟨cf, hr, hlk, hK, hN, hA⟩ F x1 (nI 0) (nI 0) onDisk_17 h H locs ls (lv_sub hl [2, 3, 1, 0] rfl) hP hD hS
    · rw [if_neg hc] at h
      refine lv_iconst (v := (-1)) hx hb d_R_defects_9 (by decide) ?_
      cases h
      exact sc_iret cf hr hlk hK hP hD hS d_R_defects_10
set_option maxHeartbeats 4000000 in
set_option maxRecDepth 100000 in
theorem c_R_image (l : Launch) (D : va_G) (cI cZ : ClassId) (h_p0 h_p0_m h_p0_d h_p0_fresh h_p0_young h_p0_dropped h_p0_released h_p0_owed h_p0_counted h_p0_inMemory h_p0_onDisk h_p0_thn : Nat) (mem : (Nat → Int32)) (dsk : (Nat → Int32)) (fresh : (Nat → Int32)) (young : (Nat → Int32)) (dropped : (Nat → Int32)) (released : (Nat → Int32)) (owed : (Nat → Int32)) (counted : (Nat → Int32)) (inMemory : (Nat → Int32)) (onDisk : (Nat → Int32)) (thn : (Nat → Int32)) (moved : Int32) (x1 : Int32) (x2 : Int32) (r : Int32) (h : s_R_image dsk x1 x2 = some r) : sc_i l y_R_image (o_R_image :: wA) rm_R_image D cI cZ [.ref h_p0, .int x1, .int x2] (w_R cI cZ h_p0 h_p0_m h_p0_d h_p0_fresh h_p0_young h_p0_dropped h_p0_released h_p0_owed h_p0_counted h_p0_inMemory h_p0_onDisk h_p0_thn mem dsk fresh young dropped released owed counted inMemory onDisk thn moved) (w_R cI cZ h_p0 h_p0_m h_p0_d h_p0_fresh h_p0_young h_p0_dropped h_p0_released h_p0_owed h_p0_counted h_p0_inMemory h_p0_onDisk h_p0_thn mem dsk fresh young dropped released owed counted inMemory onDisk thn moved) r := by
  refine sc_i_of (cc := b_R_image) (maxL := 3) (ret := (some .int)) (by decide) rfl (Nat.le_of_ble_eq_true rfl) ?_
  intro p e s m below meth c A cf hr hlk hK hN hA H locs ls hl hP hD hS
  have hx := cf.1
  have hb := cf.2.1
  have hown := cf.2.2.2.1
  have ht : ∀ w ∈ wA, w.before _ s = true := fun w h => cf.2.2.2.2 w (List.mem_cons_of_mem _ h)
  unfold s_R_image at h
  have hl : lv_has ls 3 [(0, .ref h_p0), (1, .int x1), (2, .int x2)] := hl
  refine lv_aload_n hx hb d_R_image_0 rfl (lv_at hl 0 rfl) ?_
  refine lv_iload_n hx hb d_R_image_1 rfl (lv_at hl 1 rfl) ?_
  refine lv_iload_n hx hb d_R_image_2 rfl (lv_at hl 2 rfl) ?_
  obtain ⟨r3, h3, h⟩ := bd_some h
  refine wk_Vi (As := [.int x1, .int x2]) (rest := []) (wc := (w_R cI cZ h_p0 h_p0_m h_p0_d h_p0_fresh h_p0_young h_p0_dropped h_p0_released h_p0_owed h_p0_counted h_p0_inMemory h_p0_onDisk h_p0_thn mem dsk fresh young dropped released owed counted inMemory onDisk thn moved)) (w1 := (w_R cI cZ h_p0 h_p0_m h_p0_d h_p0_fresh h_p0_young h_p0_dropped h_p0_released h_p0_owed h_p0_counted h_p0_inMemory h_p0_onDisk h_p0_thn mem dsk fresh young dropped released owed counted inMemory onDisk thn moved)) (wr := []) (wz := (w_R cI cZ h_p0 h_p0_m h_p0_d h_p0_fresh h_p0_young h_p0_dropped h_p0_released h_p0_owed h_p0_counted h_p0_inMemory h_p0_onDisk h_p0_thn mem dsk fresh young dropped released owed counted inMemory onDisk thn moved)) cf hK hN hA (c_R_within l D cI cZ h_p0 h_p0_m h_p0_d h_p0_fresh h_p0_young h_p0_dropped h_p0_released h_p0_owed h_p0_counted h_p0_inMemory h_p0_onDisk h_p0_thn mem dsk fresh young dropped released owed counted inMemory onDisk thn moved x1 x2 r3 h3) k_R_179 ⟨rfl, rfl, by decide, by decide⟩ 2 rfl rfl rfl hl hP hD hS [0, 1, 2, 3, 4, 5, 6, 7, 8, 9, 10, 11] [] [0, 1, 2, 3, 4, 5, 6, 7, 8, 9, 10, 11] rfl rfl rfl (by decide) rfl rfl rfl rfl rfl (Nat.le_of_ble_eq_true rfl) rfl d_R_image_3 (fun H locs hP hD hS => ?_)
  refine lv_if_eq hx hb d_R_image_6 rfl (fun hc => ?_) (fun hc => ?_)
  · rw [if_pos hc] at h
    refine lv_iconst (v := (nI 0)) hx hb d_R_image_23 (by decide) ?_
    cases h
    exact sc_iret cf hr hlk hK hP hD hS d_R_image_24
  · rw [if_neg hc] at h
    refine lv_aload_n hx hb d_R_image_9 rfl (lv_at hl 0 rfl) ?_
    refine va_get (D := D) (ci := 2) (v := .ref h_p0_d) (C := R_R) (T := F_R) (N := 12) hx hb ht in_R hown hK hP 0 rfl rfl 1 (by decide) (ht _ f_R_13) (fun _ h9 => h9) rfl d_R_image_10 ?_
    refine lv_bipush (v := (nI 30)) hx hb d_R_image_13 (by decide) ?_
    refine lv_iload_n hx hb d_R_image_15 rfl (lv_at hl 1 rfl) ?_
    refine lv_imul hx hb d_R_image_16 ?_
    refine lv_iload_n hx hb d_R_image_17 rfl (lv_at hl 2 rfl) ?_
    refine lv_iadd hx hb d_R_image_18 ?_
    obtain ⟨hin, h⟩ := gr_some h
    refine va_iald hx hb hK hP 2 0 rfl rfl hin d_R_image_19 ?_
    generalize dsk (((nI 30) * x1) + x2).toNatClampNeg = v19 at h ⊢
    refine lv_goto hx hb d_R_image_20 rfl ?_
    cases h
    exact sc_iret cf hr hlk hK hP hD hS d_R_image_24
set_option maxHeartbeats 4000000 in
set_option maxRecDepth 100000 in
theorem w_R_leave_66 {p : Program} {l : Launch} {e : Env} {s : State} {m : MethodId} {args : Array Value} {below : List Frame} {meth : Method} {c : Code} {D : va_G} {cI cZ : ClassId} {A : Nat → Prop} (h_p0 h_p0_m h_p0_d h_p0_fresh h_p0_young h_p0_dropped h_p0_released h_p0_owed h_p0_counted h_p0_inMemory h_p0_onDisk h_p0_thn : Nat) (F : Nat) (dsk : (Nat → Int32)) (fresh : (Nat → Int32)) (inMemory : (Nat → Int32)) (onDisk : (Nat → Int32)) (thn : (Nat → Int32)) (moved : Int32) (young' : (Nat → Int32)) (dropped' : (Nat → Int32)) (mem' : (Nat → Int32)) (released' : (Nat → Int32)) (owed' : (Nat → Int32)) (counted' : (Nat → Int32)) (cx : cx_ok p s m args meth c b_R_leave 5 o_R_leave "OrderedVolumeModel" none D cI cZ A) : ∀ (young : (Nat → Int32)) (dropped : (Nat → Int32)) (mem : (Nat → Int32)) (released : (Nat → Int32)) (owed : (Nat → Int32)) (counted : (Nat → Int32)), s_R_leave_66 F dsk fresh young dropped mem released owed counted = some (young', dropped', mem', released', owed', counted') → wk_G p l e rm_R_leave s m args below meth c (sc_Qv below args s D cI cZ A (w_R cI cZ h_p0 h_p0_m h_p0_d h_p0_fresh h_p0_young h_p0_dropped h_p0_released h_p0_owed h_p0_counted h_p0_inMemory h_p0_onDisk h_p0_thn (mem') dsk fresh (young') (dropped') (released') (owed') (counted') inMemory onDisk thn moved)) D A 5 66 [] [(0, .ref h_p0)] (w_R cI cZ h_p0 h_p0_m h_p0_d h_p0_fresh h_p0_young h_p0_dropped h_p0_released h_p0_owed h_p0_counted h_p0_inMemory h_p0_onDisk h_p0_thn mem dsk fresh young dropped released owed counted inMemory onDisk thn moved) := by
  obtain ⟨cf, hr, hlk, hK, hN, hA⟩ := cx
  have hx := cf.1
  have hb := cf.2.1
  have hown := cf.2.2.2.1
  have ht : ∀ w ∈ wA, w.before args s = true := fun w h => cf.2.2.2.2 w (List.mem_cons_of_mem _ h)
  intro young dropped mem released owed counted h H locs ls hl hP hD hS
  unfold s_R_leave_66 at h
  refine lv_aload_n hx hb d_R_leave_66 rfl (lv_at hl 0 rfl) ?_
  obtain ⟨⟨dropped_67, mem_67, released_67, owed_67, counted_67⟩, h67, h⟩ := bd_some h
  dsimp only at h
  refine wk_Vv (As := []) (rest := []) (wc := (w_R cI cZ h_p0 h_p0_m h_p0_d h_p0_fresh h_p0_young h_p0_dropped h_p0_released h_p0_owed h_p0_counted h_p0_inMemory h_p0_onDisk h_p0_thn mem dsk fresh young dropped released owed counted inMemory onDisk thn moved)) (w1 := (w_R cI cZ h_p0 h_p0_m h_p0_d h_p0_fresh h_p0_young h_p0_dropped h_p0_released h_p0_owed h_p0_counted h_p0_inMemory h_p0_onDisk h_p0_thn mem_67 dsk fresh young dropped_67 released_67 owed_67 counted_67 inMemory onDisk thn moved)) (wr := []) (wz := (w_R cI cZ h_p0 h_p0_m h_p0_d h_p0_fresh h_p0_young h_p0_dropped h_p0_released h_p0_owed h_p0_counted h_p0_inMemory h_p0_onDisk h_p0_thn mem_67 dsk fresh young dropped_67 released_67 owed_67 counted_67 inMemory onDisk thn moved)) cf hK hN hA (c_R_settle l D cI cZ h_p0 h_p0_m h_p0_d h_p0_fresh h_p0_young h_p0_dropped h_p0_released h_p0_owed h_p0_counted h_p0_inMemory h_p0_onDisk h_p0_thn F mem dsk fresh young dropped released owed counted inMemory onDisk thn moved dropped_67 mem_67 released_67 owed_67 counted_67 h67) k_R_79 ⟨rfl, rfl, by decide, by decide⟩ 2 rfl rfl rfl hl hP hD hS [0, 1, 2, 3, 4, 5, 6, 7, 8, 9, 10, 11] [] [0, 1, 2, 3, 4, 5, 6, 7, 8, 9, 10, 11] rfl rfl rfl (by decide) rfl rfl rfl rfl rfl (Nat.le_of_ble_eq_true rfl) rfl d_R_leave_67 (fun H locs hP hD hS => ?_)
  cases h
  exact sc_vret cf hr hlk hK hP hD hS d_R_leave_70
set_option maxHeartbeats 4000000 in
set_option maxRecDepth 100000 in
theorem c_R_leave (l : Launch) (D : va_G) (cI cZ : ClassId) (h_p0 h_p0_m h_p0_d h_p0_fresh h_p0_young h_p0_dropped h_p0_released h_p0_owed h_p0_counted h_p0_inMemory h_p0_onDisk h_p0_thn : Nat) (F : Nat) (mem : (Nat → Int32)) (dsk : (Nat → Int32)) (fresh : (Nat → Int32)) (young : (Nat → Int32)) (dropped : (Nat → Int32)) (released : (Nat → Int32)) (owed : (Nat → Int32)) (counted : (Nat → Int32)) (inMemory : (Nat → Int32)) (onDisk : (Nat → Int32)) (thn : (Nat → Int32)) (moved : Int32) (young' : (Nat → Int32)) (dropped' : (Nat → Int32)) (mem' : (Nat → Int32)) (released' : (Nat → Int32)) (owed' : (Nat → Int32)) (counted' : (Nat → Int32)) (x1 : Int32) (x2 : Int32) (h : s_R_leave F dsk fresh x1 x2 young dropped mem released owed counted = some (young', dropped', mem', released', owed', counted')) : sc_v l y_R_leave (o_R_leave :: wA) rm_R_leave D cI cZ [.ref h_p0, .int x1, .int x2] (w_R cI cZ h_p0 h_p0_m h_p0_d h_p0_fresh h_p0_young h_p0_dropped h_p0_released h_p0_owed h_p0_counted h_p0_inMemory h_p0_onDisk h_p0_thn mem dsk fresh young dropped released owed counted inMemory onDisk thn moved) (w_R cI cZ h_p0 h_p0_m h_p0_d h_p0_fresh h_p0_young h_p0_dropped h_p0_released h_p0_owed h_p0_counted h_p0_inMemory h_p0_onDisk h_p0_thn (mem') dsk fresh (young') (dropped') (released') (owed') (counted') inMemory onDisk thn moved) := by
  refine sc_v_of (cc := b_R_leave) (maxL := 5) (ret := none) (by decide) rfl (Nat.le_of_ble_eq_true rfl) ?_
  intro p e s m below meth c A cf hr hlk hK hN hA H locs ls hl hP hD hS
  have hx := cf.1
  have hb := cf.2.1
  have hown := cf.2.2.2.1
  have ht : ∀ w ∈ wA, w.before _ s = true := fun w h => cf.2.2.2.2 w (List.mem_cons_of_mem _ h)
  unfold s_R_leave at h
  have hl : lv_has ls 5 [(0, .ref h_p0), (1, .int x1), (2, .int x2)] := hl
  refine lv_aload_n hx hb d_R_leave_0 rfl (lv_at hl 0 rfl) ?_
  refine va_get (D := D) (ci := 2) (v := .ref h_p0_m) (C := R_R) (T := F_R) (N := 12) hx hb ht in_R hown hK hP 0 rfl rfl 0 (by decide) (ht _ f_R_7) (fun _ h9 => h9) rfl d_R_leave_1 ?_
  refine lv_iload_n hx hb d_R_leave_4 rfl (lv_at hl 1 rfl) ?_
  refine lv_iconst (v := (nI 2)) hx hb d_R_leave_5 (by decide) ?_
  obtain ⟨r6, h6, h⟩ := bd_some h
  refine wk_Si (As := [.int x1, .int (nI 2)]) (rest := [.ref h_p0_m]) (wc := []) (w1 := []) (wr := [(h_p0, .inr (2, [.ref h_p0_m, .ref h_p0_d, .ref h_p0_fresh, .ref h_p0_young, .ref h_p0_dropped, .ref h_p0_released, .ref h_p0_owed, .ref h_p0_counted, .ref h_p0_inMemory, .ref h_p0_onDisk, .ref h_p0_thn, .int moved])), (h_p0_m, .inl (cI, 1080, .inl mem)), (h_p0_d, .inl (cI, 1080, .inl dsk)), (h_p0_fresh, .inl (cZ, 36, .inl fresh)), (h_p0_young, .inl (cZ, 288, .inl young)), (h_p0_dropped, .inl (cI, 36, .inl dropped)), (h_p0_released, .inl (cZ, 18, .inl released)), (h_p0_owed, .inl (cI, 18, .inl owed)), (h_p0_counted, .inl (cI, 18, .inl counted)), (h_p0_inMemory, .inl (cZ, 18, .inl inMemory)), (h_p0_onDisk, .inl (cZ, 18, .inl onDisk)), (h_p0_thn, .inl (cZ, 18, .inl thn))]) (wz := (w_R cI cZ h_p0 h_p0_m h_p0_d h_p0_fresh h_p0_young h_p0_dropped h_p0_released h_p0_owed h_p0_counted h_p0_inMemory h_p0_onDisk h_p0_thn mem dsk fresh young dropped released owed counted inMemory onDisk thn moved)) cf hK hN hA (c_R_at l D cI cZ 0 x1 (nI 2) r6 h6) k_R_44 ⟨rfl, rfl, by decide, by decide⟩ hl hP hD hS [] [0, 1, 2, 3, 4, 5, 6, 7, 8, 9, 10, 11] [0, 1, 2, 3, 4, 5, 6, 7, 8, 9, 10, 11] rfl rfl rfl (by decide) rfl rfl rfl rfl rfl (Nat.le_of_ble_eq_true rfl) rfl d_R_leave_6 (fun H locs hP hD hS => ?_)
  obtain ⟨hin, h⟩ := gr_some h
  refine va_iald hx hb hK hP 1 0 rfl rfl hin d_R_leave_9 ?_
  generalize mem r6.toNatClampNeg = v9 at h ⊢
  refine lv_istore_n (lv' := [(3, .int v9), (0, .ref h_p0), (1, .int x1), (2, .int x2)]) hx hb d_R_leave_10 rfl hl (by decide) rfl (fun ls hl => ?_)
  refine lv_aload_n hx hb d_R_leave_11 rfl (lv_at hl 1 rfl) ?_
  refine va_get (D := D) (ci := 2) (v := .ref h_p0_m) (C := R_R) (T := F_R) (N := 12) hx hb ht in_R hown hK hP 0 rfl rfl 0 (by decide) (ht _ f_R_7) (fun _ h9 => h9) rfl d_R_leave_12 ?_
  refine lv_bipush (v := (nI 30)) hx hb d_R_leave_15 (by decide) ?_
  refine lv_iload_n hx hb d_R_leave_17 rfl (lv_at hl 0 rfl) ?_
  refine lv_imul hx hb d_R_leave_18 ?_
  refine lv_iload_n hx hb d_R_leave_19 rfl (lv_at hl 3 rfl) ?_
  refine lv_iadd hx hb d_R_leave_20 ?_
  obtain ⟨hin, h⟩ := gr_some h
  refine va_iald hx hb hK hP 1 0 rfl rfl hin d_R_leave_21 ?_
  generalize mem (((nI 30) * v9) + x2).toNatClampNeg = v21 at h ⊢
  refine lv_bipush (v := (nI 32)) hx hb d_R_leave_22 (by decide) ?_
  refine lv_irem hx hb d_R_leave_24 (by decide) ?_
  refine lv_istore (lv' := [(4, .int (v21 - v21 / (nI 32) * (nI 32))), (3, .int v9), (0, .ref h_p0), (1, .int x1), (2, .int x2)]) hx hb d_R_leave_25 hl (by decide) rfl (fun ls hl => ?_)
  refine lv_aload_n hx hb d_R_leave_27 rfl (lv_at hl 2 rfl) ?_
  refine va_get (D := D) (ci := 2) (v := .ref h_p0_m) (C := R_R) (T := F_R) (N := 12) hx hb ht in_R hown hK hP 0 rfl rfl 0 (by decide) (ht _ f_R_7) (fun _ h9 => h9) rfl d_R_leave_28 ?_
  refine lv_bipush (v := (nI 30)) hx hb d_R_leave_31 (by decide) ?_
  refine lv_iload_n hx hb d_R_leave_33 rfl (lv_at hl 1 rfl) ?_
  refine lv_imul hx hb d_R_leave_34 ?_
  refine lv_iload_n hx hb d_R_leave_35 rfl (lv_at hl 4 rfl) ?_
  refine lv_iadd hx hb d_R_leave_36 ?_
  refine lv_iconst (v := (nI 0)) hx hb d_R_leave_37 (by decide) ?_
  obtain ⟨hin, h⟩ := ga_some h
  refine va_iast hx hb hK hP hD hS 1 0 rfl rfl hin d_R_leave_38 (fun H locs hP hD hS => ?_)
  have hP : va_P D clA (w_R cI cZ h_p0 h_p0_m h_p0_d h_p0_fresh h_p0_young h_p0_dropped h_p0_released h_p0_owed h_p0_counted h_p0_inMemory h_p0_onDisk h_p0_thn (upd mem (((nI 30) * v9) + x2).toNatClampNeg (nI 0)) dsk fresh young dropped released owed counted inMemory onDisk thn moved) H := hP
  have hD : va_D A (w_R cI cZ h_p0 h_p0_m h_p0_d h_p0_fresh h_p0_young h_p0_dropped h_p0_released h_p0_owed h_p0_counted h_p0_inMemory h_p0_onDisk h_p0_thn (upd mem (((nI 30) * v9) + x2).toNatClampNeg (nI 0)) dsk fresh young dropped released owed counted inMemory onDisk thn moved) := hD
  refine lv_aload_n hx hb d_R_leave_39 rfl (lv_at hl 2 rfl) ?_
  refine va_get (D := D) (ci := 2) (v := .ref h_p0_young) (C := R_R) (T := F_R) (N := 12) hx hb ht in_R hown hK hP 0 rfl rfl 3 (by decide) (ht _ f_R_20) (fun _ h9 => h9) rfl d_R_leave_40 ?_
  refine lv_bipush (v := (nI 8)) hx hb d_R_leave_43 (by decide) ?_
  refine lv_iload_n hx hb d_R_leave_45 rfl (lv_at hl 1 rfl) ?_
  refine lv_imul hx hb d_R_leave_46 ?_
  refine lv_iload_n hx hb d_R_leave_47 rfl (lv_at hl 4 rfl) ?_
  refine lv_iadd hx hb d_R_leave_48 ?_
  refine lv_iconst (v := (nI 0)) hx hb d_R_leave_49 (by decide) ?_
  obtain ⟨hin, h⟩ := ga_some h
  refine va_zast hx hb hK hP hD hS 4 1 rfl rfl hin d_R_leave_50 (fun H locs hP hD hS => ?_)
  have hP : va_P D clA (w_R cI cZ h_p0 h_p0_m h_p0_d h_p0_fresh h_p0_young h_p0_dropped h_p0_released h_p0_owed h_p0_counted h_p0_inMemory h_p0_onDisk h_p0_thn (upd mem (((nI 30) * v9) + x2).toNatClampNeg (nI 0)) dsk fresh (upd young (((nI 8) * v9) + x2).toNatClampNeg (vp_nar .boolean (nI 0))) dropped released owed counted inMemory onDisk thn moved) H := hP
  have hD : va_D A (w_R cI cZ h_p0 h_p0_m h_p0_d h_p0_fresh h_p0_young h_p0_dropped h_p0_released h_p0_owed h_p0_counted h_p0_inMemory h_p0_onDisk h_p0_thn (upd mem (((nI 30) * v9) + x2).toNatClampNeg (nI 0)) dsk fresh (upd young (((nI 8) * v9) + x2).toNatClampNeg (vp_nar .boolean (nI 0))) dropped released owed counted inMemory onDisk thn moved) := hD
  refine lv_aload_n hx hb d_R_leave_51 rfl (lv_at hl 2 rfl) ?_
  refine lv_iload_n hx hb d_R_leave_52 rfl (lv_at hl 1 rfl) ?_
  refine lv_iload_n hx hb d_R_leave_53 rfl (lv_at hl 4 rfl) ?_
  obtain ⟨r54, h54, h⟩ := bd_some h
  refine wk_Vi (As := [.int v9, .int x2]) (rest := []) (wc := (w_R cI cZ h_p0 h_p0_m h_p0_d h_p0_fresh h_p0_young h_p0_dropped h_p0_released h_p0_owed h_p0_counted h_p0_inMemory h_p0_onDisk h_p0_thn (upd mem (((nI 30) * v9) + x2).toNatClampNeg (nI 0)) dsk fresh (upd young (((nI 8) * v9) + x2).toNatClampNeg (vp_nar .boolean (nI 0))) dropped released owed counted inMemory onDisk thn moved)) (w1 := (w_R cI cZ h_p0 h_p0_m h_p0_d h_p0_fresh h_p0_young h_p0_dropped h_p0_released h_p0_owed h_p0_counted h_p0_inMemory h_p0_onDisk h_p0_thn (upd mem (((nI 30) * v9) + x2).toNatClampNeg (nI 0)) dsk fresh (upd young (((nI 8) * v9) + x2).toNatClampNeg (vp_nar .boolean (nI 0))) dropped released owed counted inMemory onDisk thn moved)) (wr := []) (wz := (w_R cI cZ h_p0 h_p0_m h_p0_d h_p0_fresh h_p0_young h_p0_dropped h_p0_released h_p0_owed h_p0_counted h_p0_inMemory h_p0_onDisk h_p0_thn (upd mem (((nI 30) * v9) + x2).toNatClampNeg (nI 0)) dsk fresh (upd young (((nI 8) * v9) + x2).toNatClampNeg (vp_nar .boolean (nI 0))) dropped released owed counted inMemory onDisk thn moved)) cf hK hN hA (c_R_seen l D cI cZ h_p0 h_p0_m h_p0_d h_p0_fresh h_p0_young h_p0_dropped h_p0_released h_p0_owed h_p0_counted h_p0_inMemory h_p0_onDisk h_p0_thn (upd mem (((nI 30) * v9) + x2).toNatClampNeg (nI 0)) dsk fresh (upd young (((nI 8) * v9) + x2).toNatClampNeg (vp_nar .boolean (nI 0))) dropped released owed counted inMemory onDisk thn moved v9 x2 r54 h54) k_R_66 ⟨rfl, rfl, by decide, by decide⟩ 2 rfl rfl rfl hl hP hD hS [0, 1, 2, 3, 4, 5, 6, 7, 8, 9, 10, 11] [] [0, 1, 2, 3, 4, 5, 6, 7, 8, 9, 10, 11] rfl rfl rfl (by decide) rfl rfl rfl rfl rfl (Nat.le_of_ble_eq_true rfl) rfl d_R_leave_54 (fun H locs hP hD hS => ?_)
  refine lv_if_ne hx hb d_R_leave_57 rfl (fun hc => ?_) (fun hc => ?_)
  · rw [if_neg hc] at h
    exact w_R_leave_66 h_p0 h_p0_m h_p0_d h_p0_fresh h_p0_young h_p0_dropped h_p0_released h_p0_owed h_p0_counted h_p0_inMemory h_p0_onDisk h_p0_thn F dsk fresh inMemory onDisk thn moved young' dropped' mem' released' owed' counted' ⟨cf, hr, hlk, hK, hN, hA⟩ (upd young (((nI 8) * v9) + x2).toNatClampNeg (vp_nar .boolean (nI 0))) dropped (upd mem (((nI 30) * v9) + x2).toNatClampNeg (nI 0)) released owed counted h H locs ls (lv_sub hl [2] rfl) hP hD hS
  · rw [if_pos hc] at h
    refine lv_aload_n hx hb d_R_leave_60 rfl (lv_at hl 2 rfl) ?_
    refine lv_iload hx hb d_R_leave_61 (lv_at hl 0 rfl) ?_
    obtain ⟨⟨dropped_63, mem_63, released_63⟩, h63, h⟩ := bd_some h
    dsimp only at h
    refine wk_Vv (As := [.int (v21 - v21 / (nI 32) * (nI 32))]) (rest := []) (wc := (w_R cI cZ h_p0 h_p0_m h_p0_d h_p0_fresh h_p0_young h_p0_dropped h_p0_released h_p0_owed h_p0_counted h_p0_inMemory h_p0_onDisk h_p0_thn (upd mem (((nI 30) * v9) + x2).toNatClampNeg (nI 0)) dsk fresh (upd young (((nI 8) * v9) + x2).toNatClampNeg (vp_nar .boolean (nI 0))) dropped released owed counted inMemory onDisk thn moved)) (w1 := (w_R cI cZ h_p0 h_p0_m h_p0_d h_p0_fresh h_p0_young h_p0_dropped h_p0_released h_p0_owed h_p0_counted h_p0_inMemory h_p0_onDisk h_p0_thn mem_63 dsk fresh (upd young (((nI 8) * v9) + x2).toNatClampNeg (vp_nar .boolean (nI 0))) dropped_63 released_63 owed counted inMemory onDisk thn moved)) (wr := []) (wz := (w_R cI cZ h_p0 h_p0_m h_p0_d h_p0_fresh h_p0_young h_p0_dropped h_p0_released h_p0_owed h_p0_counted h_p0_inMemory h_p0_onDisk h_p0_thn mem_63 dsk fresh (upd young (((nI 8) * v9) + x2).toNatClampNeg (vp_nar .boolean (nI 0))) dropped_63 released_63 owed counted inMemory onDisk thn moved)) cf hK hN hA (c_R_fall l D cI cZ h_p0 h_p0_m h_p0_d h_p0_fresh h_p0_young h_p0_dropped h_p0_released h_p0_owed h_p0_counted h_p0_inMemory h_p0_onDisk h_p0_thn F (upd mem (((nI 30) * v9) + x2).toNatClampNeg (nI 0)) dsk fresh (upd young (((nI 8) * v9) + x2).toNatClampNeg (vp_nar .boolean (nI 0))) dropped released owed counted inMemory onDisk thn moved dropped_63 mem_63 released_63 (v21 - v21 / (nI 32) * (nI 32)) h63) k_R_75 ⟨rfl, rfl, by decide, by decide⟩ 2 rfl rfl rfl hl hP hD hS [0, 1, 2, 3, 4, 5, 6, 7, 8, 9, 10, 11] [] [0, 1, 2, 3, 4, 5, 6, 7, 8, 9, 10, 11] rfl rfl rfl (by decide) rfl rfl rfl rfl rfl (Nat.le_of_ble_eq_true rfl) rfl d_R_leave_63 (fun H locs hP hD hS => ?_)
    exact w_R_leave_66 h_p0 h_p0_m h_p0_d h_p0_fresh h_p0_young h_p0_dropped h_p0_released h_p0_owed h_p0_counted h_p0_inMemory h_p0_onDisk h_p0_thn F dsk fresh inMemory onDisk thn moved young' dropped' mem' released' owed' counted' ⟨cf, hr, hlk, hK, hN, hA⟩ (upd young (((nI 8) * v9) + x2).toNatClampNeg (vp_nar .boolean (nI 0))) dropped_63 mem_63 released_63 owed counted h H locs ls (lv_sub hl [2] rfl) hP hD hS
set_option maxHeartbeats 4000000 in
set_option maxRecDepth 100000 in
theorem w_R_link_65 {p : Program} {l : Launch} {e : Env} {s : State} {m : MethodId} {args : Array Value} {below : List Frame} {meth : Method} {c : Code} {D : va_G} {cI cZ : ClassId} {A : Nat → Prop} (h_p0 h_p0_m h_p0_d h_p0_fresh h_p0_young h_p0_dropped h_p0_released h_p0_owed h_p0_counted h_p0_inMemory h_p0_onDisk h_p0_thn : Nat) (F : Nat) (young' : (Nat → Int32)) (dropped' : (Nat → Int32)) (mem' : (Nat → Int32)) (dsk' : (Nat → Int32)) (fresh' : (Nat → Int32)) (released' : (Nat → Int32)) (owed' : (Nat → Int32)) (counted' : (Nat → Int32)) (inMemory' : (Nat → Int32)) (onDisk' : (Nat → Int32)) (thn' : (Nat → Int32)) (moved' : Int32) (r : Int32) (cx : cx_ok p s m args meth c b_R_link 4 o_R_link "OrderedVolumeModel" (some .int) D cI cZ A) : ∀ (x1 : Int32) (x2 : Int32) (x3 : Int32) (young : (Nat → Int32)) (dropped : (Nat → Int32)) (mem : (Nat → Int32)) (dsk : (Nat → Int32)) (fresh : (Nat → Int32)) (released : (Nat → Int32)) (owed : (Nat → Int32)) (counted : (Nat → Int32)) (inMemory : (Nat → Int32)) (onDisk : (Nat → Int32)) (thn : (Nat → Int32)) (moved : Int32), s_R_link_65 F x1 x2 x3 young dropped mem dsk fresh released owed counted inMemory onDisk thn moved = some (r, young', dropped', mem', dsk', fresh', released', owed', counted', inMemory', onDisk', thn', moved') → wk_G p l e rm_R_link s m args below meth c (sc_Qi below args s D cI cZ A (w_R cI cZ h_p0 h_p0_m h_p0_d h_p0_fresh h_p0_young h_p0_dropped h_p0_released h_p0_owed h_p0_counted h_p0_inMemory h_p0_onDisk h_p0_thn (mem') (dsk') (fresh') (young') (dropped') (released') (owed') (counted') (inMemory') (onDisk') (thn') (moved')) r) D A 4 65 [] [(0, .ref h_p0), (1, .int x1), (2, .int x2), (3, .int x3)] (w_R cI cZ h_p0 h_p0_m h_p0_d h_p0_fresh h_p0_young h_p0_dropped h_p0_released h_p0_owed h_p0_counted h_p0_inMemory h_p0_onDisk h_p0_thn mem dsk fresh young dropped released owed counted inMemory onDisk thn moved) := by
  obtain ⟨cf, hr, hlk, hK, hN, hA⟩ := cx
  have hx := cf.1
  have hb := cf.2.1
  have hown := cf.2.2.2.1
  have ht : ∀ w ∈ wA, w.before args s = true := fun w h => cf.2.2.2.2 w (List.mem_cons_of_mem _ h)
  intro x1 x2 x3 young dropped mem dsk fresh released owed counted inMemory onDisk thn moved h H locs ls hl hP hD hS
  unfold s_R_link_65 at h
  refine lv_aload_n hx hb d_R_link_65 rfl (lv_at hl 0 rfl) ?_
  refine lv_iload_n hx hb d_R_link_66 rfl (lv_at hl 1 rfl) ?_
  refine lv_iload_n hx hb d_R_link_67 rfl (lv_at hl 2 rfl) ?_
  refine lv_iload_n hx hb d_R_link_68 rfl (lv_at hl 3 rfl) ?_
  obtain ⟨⟨young_69, mem_69⟩, h69, h⟩ := bd_some h
  dsimp only at h
  refine wk_Vv (As := [.int x1, .int x2, .int x3]) (rest := []) (wc := (w_R cI cZ h_p0 h_p0_m h_p0_d h_p0_fresh h_p0_young h_p0_dropped h_p0_released h_p0_owed h_p0_counted h_p0_inMemory h_p0_onDisk h_p0_thn mem dsk fresh young dropped released owed counted inMemory onDisk thn moved)) (w1 := (w_R cI cZ h_p0 h_p0_m h_p0_d h_p0_fresh h_p0_young h_p0_dropped h_p0_released h_p0_owed h_p0_counted h_p0_inMemory h_p0_onDisk h_p0_thn mem_69 dsk fresh young_69 dropped released owed counted inMemory onDisk thn moved)) (wr := []) (wz := (w_R cI cZ h_p0 h_p0_m h_p0_d h_p0_fresh h_p0_young h_p0_dropped h_p0_released h_p0_owed h_p0_counted h_p0_inMemory h_p0_onDisk h_p0_thn mem_69 dsk fresh young_69 dropped released owed counted inMemory onDisk thn moved)) cf hK hN hA (c_R_enter l D cI cZ h_p0 h_p0_m h_p0_d h_p0_fresh h_p0_young h_p0_dropped h_p0_released h_p0_owed h_p0_counted h_p0_inMemory h_p0_onDisk h_p0_thn F mem dsk fresh young dropped released owed counted inMemory onDisk thn moved young_69 mem_69 x1 x2 x3 h69) k_R_130 ⟨rfl, rfl, by decide, by decide⟩ 2 rfl rfl rfl hl hP hD hS [0, 1, 2, 3, 4, 5, 6, 7, 8, 9, 10, 11] [] [0, 1, 2, 3, 4, 5, 6, 7, 8, 9, 10, 11] rfl rfl rfl (by decide) rfl rfl rfl rfl rfl (Nat.le_of_ble_eq_true rfl) rfl d_R_link_69 (fun H locs hP hD hS => ?_)
  refine lv_aload_n hx hb d_R_link_72 rfl (lv_at hl 0 rfl) ?_
  refine va_get (D := D) (ci := 2) (v := .ref h_p0_m) (C := R_R) (T := F_R) (N := 12) hx hb ht in_R hown hK hP 0 rfl rfl 0 (by decide) (ht _ f_R_7) (fun _ h9 => h9) rfl d_R_link_73 ?_
  refine lv_iload_n hx hb d_R_link_76 rfl (lv_at hl 3 rfl) ?_
  refine lv_iconst (v := (nI 1)) hx hb d_R_link_77 (by decide) ?_
  obtain ⟨r78, h78, h⟩ := bd_some h
  refine wk_Si (As := [.int x3, .int (nI 1)]) (rest := [.ref h_p0_m]) (wc := []) (w1 := []) (wr := [(h_p0, .inr (2, [.ref h_p0_m, .ref h_p0_d, .ref h_p0_fresh, .ref h_p0_young, .ref h_p0_dropped, .ref h_p0_released, .ref h_p0_owed, .ref h_p0_counted, .ref h_p0_inMemory, .ref h_p0_onDisk, .ref h_p0_thn, .int moved])), (h_p0_m, .inl (cI, 1080, .inl mem_69)), (h_p0_d, .inl (cI, 1080, .inl dsk)), (h_p0_fresh, .inl (cZ, 36, .inl fresh)), (h_p0_young, .inl (cZ, 288, .inl young_69)), (h_p0_dropped, .inl (cI, 36, .inl dropped)), (h_p0_released, .inl (cZ, 18, .inl released)), (h_p0_owed, .inl (cI, 18, .inl owed)), (h_p0_counted, .inl (cI, 18, .inl counted)), (h_p0_inMemory, .inl (cZ, 18, .inl inMemory)), (h_p0_onDisk, .inl (cZ, 18, .inl onDisk)), (h_p0_thn, .inl (cZ, 18, .inl thn))]) (wz := (w_R cI cZ h_p0 h_p0_m h_p0_d h_p0_fresh h_p0_young h_p0_dropped h_p0_released h_p0_owed h_p0_counted h_p0_inMemory h_p0_onDisk h_p0_thn mem_69 dsk fresh young_69 dropped released owed counted inMemory onDisk thn moved)) cf hK hN hA (c_R_at l D cI cZ 0 x3 (nI 1) r78 h78) k_R_44 ⟨rfl, rfl, by decide, by decide⟩ hl hP hD hS [] [0, 1, 2, 3, 4, 5, 6, 7, 8, 9, 10, 11] [0, 1, 2, 3, 4, 5, 6, 7, 8, 9, 10, 11] rfl rfl rfl (by decide) rfl rfl rfl rfl rfl (Nat.le_of_ble_eq_true rfl) rfl d_R_link_78 (fun H locs hP hD hS => ?_)
  obtain ⟨hin, h⟩ := gr_some h
  refine va_iald hx hb hK hP 1 0 rfl rfl hin d_R_link_81 ?_
  generalize mem_69 r78.toNatClampNeg = v81 at h ⊢
  cases h
  exact sc_iret cf hr hlk hK hP hD hS d_R_link_82
set_option maxHeartbeats 4000000 in
set_option maxRecDepth 100000 in
theorem c_R_link (l : Launch) (D : va_G) (cI cZ : ClassId) (h_p0 h_p0_m h_p0_d h_p0_fresh h_p0_young h_p0_dropped h_p0_released h_p0_owed h_p0_counted h_p0_inMemory h_p0_onDisk h_p0_thn : Nat) (F : Nat) (mem : (Nat → Int32)) (dsk : (Nat → Int32)) (fresh : (Nat → Int32)) (young : (Nat → Int32)) (dropped : (Nat → Int32)) (released : (Nat → Int32)) (owed : (Nat → Int32)) (counted : (Nat → Int32)) (inMemory : (Nat → Int32)) (onDisk : (Nat → Int32)) (thn : (Nat → Int32)) (moved : Int32) (young' : (Nat → Int32)) (dropped' : (Nat → Int32)) (mem' : (Nat → Int32)) (dsk' : (Nat → Int32)) (fresh' : (Nat → Int32)) (released' : (Nat → Int32)) (owed' : (Nat → Int32)) (counted' : (Nat → Int32)) (inMemory' : (Nat → Int32)) (onDisk' : (Nat → Int32)) (thn' : (Nat → Int32)) (moved' : Int32) (x1 : Int32) (x2 : Int32) (x3 : Int32) (r : Int32) (h : s_R_link F x1 x2 x3 young dropped mem dsk fresh released owed counted inMemory onDisk thn moved = some (r, young', dropped', mem', dsk', fresh', released', owed', counted', inMemory', onDisk', thn', moved')) : sc_i l y_R_link (o_R_link :: wA) rm_R_link D cI cZ [.ref h_p0, .int x1, .int x2, .int x3] (w_R cI cZ h_p0 h_p0_m h_p0_d h_p0_fresh h_p0_young h_p0_dropped h_p0_released h_p0_owed h_p0_counted h_p0_inMemory h_p0_onDisk h_p0_thn mem dsk fresh young dropped released owed counted inMemory onDisk thn moved) (w_R cI cZ h_p0 h_p0_m h_p0_d h_p0_fresh h_p0_young h_p0_dropped h_p0_released h_p0_owed h_p0_counted h_p0_inMemory h_p0_onDisk h_p0_thn (mem') (dsk') (fresh') (young') (dropped') (released') (owed') (counted') (inMemory') (onDisk') (thn') (moved')) r := by
  refine sc_i_of (cc := b_R_link) (maxL := 4) (ret := (some .int)) (by decide) rfl (Nat.le_of_ble_eq_true rfl) ?_
  intro p e s m below meth c A cf hr hlk hK hN hA H locs ls hl hP hD hS
  have hx := cf.1
  have hb := cf.2.1
  have hown := cf.2.2.2.1
  have ht : ∀ w ∈ wA, w.before _ s = true := fun w h => cf.2.2.2.2 w (List.mem_cons_of_mem _ h)
  unfold s_R_link at h
  have hl : lv_has ls 4 [(0, .ref h_p0), (1, .int x1), (2, .int x2), (3, .int x3)] := hl
  refine lv_iload_n hx hb d_R_link_0 rfl (lv_at hl 2 rfl) ?_
  obtain ⟨r1, h1, h⟩ := bd_some h
  refine wk_Si (As := [.int x2]) (rest := []) (wc := []) (w1 := []) (wr := [(h_p0, .inr (2, [.ref h_p0_m, .ref h_p0_d, .ref h_p0_fresh, .ref h_p0_young, .ref h_p0_dropped, .ref h_p0_released, .ref h_p0_owed, .ref h_p0_counted, .ref h_p0_inMemory, .ref h_p0_onDisk, .ref h_p0_thn, .int moved])), (h_p0_m, .inl (cI, 1080, .inl mem)), (h_p0_d, .inl (cI, 1080, .inl dsk)), (h_p0_fresh, .inl (cZ, 36, .inl fresh)), (h_p0_young, .inl (cZ, 288, .inl young)), (h_p0_dropped, .inl (cI, 36, .inl dropped)), (h_p0_released, .inl (cZ, 18, .inl released)), (h_p0_owed, .inl (cI, 18, .inl owed)), (h_p0_counted, .inl (cI, 18, .inl counted)), (h_p0_inMemory, .inl (cZ, 18, .inl inMemory)), (h_p0_onDisk, .inl (cZ, 18, .inl onDisk)), (h_p0_thn, .inl (cZ, 18, .inl thn))]) (wz := (w_R cI cZ h_p0 h_p0_m h_p0_d h_p0_fresh h_p0_young h_p0_dropped h_p0_released h_p0_owed h_p0_counted h_p0_inMemory h_p0_onDisk h_p0_thn mem dsk fresh young dropped released owed counted inMemory onDisk thn moved)) cf hK hN hA (c_R_isName l D cI cZ 0 x2 r1 h1) k_R_106 ⟨rfl, rfl, by decide, by decide⟩ hl hP hD hS [] [0, 1, 2, 3, 4, 5, 6, 7, 8, 9, 10, 11] [0, 1, 2, 3, 4, 5, 6, 7, 8, 9, 10, 11] rfl rfl rfl (by decide) rfl rfl rfl rfl rfl (Nat.le_of_ble_eq_true rfl) rfl d_R_link_1 (fun H locs hP hD hS => ?_)
  refine lv_if_eq hx hb d_R_link_4 rfl (fun hc => ?_) (fun hc => ?_)
  · rw [if_pos hc] at h
    refine lv_iconst (v := (-1)) hx hb d_R_link_25 (by decide) ?_
    cases h
    exact sc_iret cf hr hlk hK hP hD hS d_R_link_26
  · rw [if_neg hc] at h
    refine lv_aload_n hx hb d_R_link_7 rfl (lv_at hl 0 rfl) ?_
    refine lv_iload_n hx hb d_R_link_8 rfl (lv_at hl 1 rfl) ?_
    refine lv_iconst (v := (nI 2)) hx hb d_R_link_9 (by decide) ?_
    obtain ⟨⟨r10, inMemory_10⟩, h10, h⟩ := bd_some h
    dsimp only at h
    refine wk_Vi (As := [.int x1, .int (nI 2)]) (rest := []) (wc := (w_R cI cZ h_p0 h_p0_m h_p0_d h_p0_fresh h_p0_young h_p0_dropped h_p0_released h_p0_owed h_p0_counted h_p0_inMemory h_p0_onDisk h_p0_thn mem dsk fresh young dropped released owed counted inMemory onDisk thn moved)) (w1 := (w_R cI cZ h_p0 h_p0_m h_p0_d h_p0_fresh h_p0_young h_p0_dropped h_p0_released h_p0_owed h_p0_counted h_p0_inMemory h_p0_onDisk h_p0_thn mem dsk fresh young dropped released owed counted inMemory_10 onDisk thn moved)) (wr := []) (wz := (w_R cI cZ h_p0 h_p0_m h_p0_d h_p0_fresh h_p0_young h_p0_dropped h_p0_released h_p0_owed h_p0_counted h_p0_inMemory h_p0_onDisk h_p0_thn mem dsk fresh young dropped released owed counted inMemory_10 onDisk thn moved)) cf hK hN hA (c_R_holds l D cI cZ h_p0 h_p0_m h_p0_d h_p0_fresh h_p0_young h_p0_dropped h_p0_released h_p0_owed h_p0_counted h_p0_inMemory h_p0_onDisk h_p0_thn F mem dsk fresh young dropped released owed counted inMemory onDisk thn moved inMemory_10 x1 (nI 2) r10 h10) k_R_109 ⟨rfl, rfl, by decide, by decide⟩ 2 rfl rfl rfl hl hP hD hS [0, 1, 2, 3, 4, 5, 6, 7, 8, 9, 10, 11] [] [0, 1, 2, 3, 4, 5, 6, 7, 8, 9, 10, 11] rfl rfl rfl (by decide) rfl rfl rfl rfl rfl (Nat.le_of_ble_eq_true rfl) rfl d_R_link_10 (fun H locs hP hD hS => ?_)
    refine lv_if_eq hx hb d_R_link_13 rfl (fun hc => ?_) (fun hc => ?_)
    · rw [if_pos hc] at h
      refine lv_iconst (v := (-1)) hx hb d_R_link_25 (by decide) ?_
      cases h
      exact sc_iret cf hr hlk hK hP hD hS d_R_link_26
    · rw [if_neg hc] at h
      refine lv_aload_n hx hb d_R_link_16 rfl (lv_at hl 0 rfl) ?_
      refine lv_iload_n hx hb d_R_link_17 rfl (lv_at hl 3 rfl) ?_
      refine lv_iconst (v := (nI 1)) hx hb d_R_link_18 (by decide) ?_
      obtain ⟨⟨r19, inMemory_19⟩, h19, h⟩ := bd_some h
      dsimp only at h
      refine wk_Vi (As := [.int x3, .int (nI 1)]) (rest := []) (wc := (w_R cI cZ h_p0 h_p0_m h_p0_d h_p0_fresh h_p0_young h_p0_dropped h_p0_released h_p0_owed h_p0_counted h_p0_inMemory h_p0_onDisk h_p0_thn mem dsk fresh young dropped released owed counted inMemory_10 onDisk thn moved)) (w1 := (w_R cI cZ h_p0 h_p0_m h_p0_d h_p0_fresh h_p0_young h_p0_dropped h_p0_released h_p0_owed h_p0_counted h_p0_inMemory h_p0_onDisk h_p0_thn mem dsk fresh young dropped released owed counted inMemory_19 onDisk thn moved)) (wr := []) (wz := (w_R cI cZ h_p0 h_p0_m h_p0_d h_p0_fresh h_p0_young h_p0_dropped h_p0_released h_p0_owed h_p0_counted h_p0_inMemory h_p0_onDisk h_p0_thn mem dsk fresh young dropped released owed counted inMemory_19 onDisk thn moved)) cf hK hN hA (c_R_holds l D cI cZ h_p0 h_p0_m h_p0_d h_p0_fresh h_p0_young h_p0_dropped h_p0_released h_p0_owed h_p0_counted h_p0_inMemory h_p0_onDisk h_p0_thn F mem dsk fresh young dropped released owed counted inMemory_10 onDisk thn moved inMemory_19 x3 (nI 1) r19 h19) k_R_109 ⟨rfl, rfl, by decide, by decide⟩ 2 rfl rfl rfl hl hP hD hS [0, 1, 2, 3, 4, 5, 6, 7, 8, 9, 10, 11] [] [0, 1, 2, 3, 4, 5, 6, 7, 8, 9, 10, 11] rfl rfl rfl (by decide) rfl rfl rfl rfl rfl (Nat.le_of_ble_eq_true rfl) rfl d_R_link_19 (fun H locs hP hD hS => ?_)
      refine lv_if_ne hx hb d_R_link_22 rfl (fun hc => ?_) (fun hc => ?_)
      · rw [if_neg hc] at h
        refine lv_aload_n hx hb d_R_link_27 rfl (lv_at hl 0 rfl) ?_
        refine lv_iload_n hx hb d_R_link_28 rfl (lv_at hl 1 rfl) ?_
        refine lv_iload_n hx hb d_R_link_29 rfl (lv_at hl 2 rfl) ?_
        obtain ⟨r30, h30, h⟩ := bd_some h
        refine wk_Vi (As := [.int x1, .int x2]) (rest := []) (wc := (w_R cI cZ h_p0 h_p0_m h_p0_d h_p0_fresh h_p0_young h_p0_dropped h_p0_released h_p0_owed h_p0_counted h_p0_inMemory h_p0_onDisk h_p0_thn mem dsk fresh young dropped released owed counted inMemory_19 onDisk thn moved)) (w1 := (w_R cI cZ h_p0 h_p0_m h_p0_d h_p0_fresh h_p0_young h_p0_dropped h_p0_released h_p0_owed h_p0_counted h_p0_inMemory h_p0_onDisk h_p0_thn mem dsk fresh young dropped released owed counted inMemory_19 onDisk thn moved)) (wr := []) (wz := (w_R cI cZ h_p0 h_p0_m h_p0_d h_p0_fresh h_p0_young h_p0_dropped h_p0_released h_p0_owed h_p0_counted h_p0_inMemory h_p0_onDisk h_p0_thn mem dsk fresh young dropped released owed counted inMemory_19 onDisk thn moved)) cf hK hN hA (c_R_find l D cI cZ h_p0 h_p0_m h_p0_d h_p0_fresh h_p0_young h_p0_dropped h_p0_released h_p0_owed h_p0_counted h_p0_inMemory h_p0_onDisk h_p0_thn F mem dsk fresh young dropped released owed counted inMemory_19 onDisk thn moved x1 x2 r30 h30) k_R_113 ⟨rfl, rfl, by decide, by decide⟩ 2 rfl rfl rfl hl hP hD hS [0, 1, 2, 3, 4, 5, 6, 7, 8, 9, 10, 11] [] [0, 1, 2, 3, 4, 5, 6, 7, 8, 9, 10, 11] rfl rfl rfl (by decide) rfl rfl rfl rfl rfl (Nat.le_of_ble_eq_true rfl) rfl d_R_link_30 (fun H locs hP hD hS => ?_)
        refine lv_if_lt hx hb d_R_link_33 rfl (fun hc => ?_) (fun hc => ?_)
        · rw [if_pos hc] at h
          refine lv_aload_n hx hb d_R_link_39 rfl (lv_at hl 0 rfl) ?_
          refine lv_iload_n hx hb d_R_link_40 rfl (lv_at hl 1 rfl) ?_
          obtain ⟨r41, h41, h⟩ := bd_some h
          refine wk_Vi (As := [.int x1]) (rest := []) (wc := (w_R cI cZ h_p0 h_p0_m h_p0_d h_p0_fresh h_p0_young h_p0_dropped h_p0_released h_p0_owed h_p0_counted h_p0_inMemory h_p0_onDisk h_p0_thn mem dsk fresh young dropped released owed counted inMemory_19 onDisk thn moved)) (w1 := (w_R cI cZ h_p0 h_p0_m h_p0_d h_p0_fresh h_p0_young h_p0_dropped h_p0_released h_p0_owed h_p0_counted h_p0_inMemory h_p0_onDisk h_p0_thn mem dsk fresh young dropped released owed counted inMemory_19 onDisk thn moved)) (wr := []) (wz := (w_R cI cZ h_p0 h_p0_m h_p0_d h_p0_fresh h_p0_young h_p0_dropped h_p0_released h_p0_owed h_p0_counted h_p0_inMemory h_p0_onDisk h_p0_thn mem dsk fresh young dropped released owed counted inMemory_19 onDisk thn moved)) cf hK hN hA (c_R_entries l D cI cZ h_p0 h_p0_m h_p0_d h_p0_fresh h_p0_young h_p0_dropped h_p0_released h_p0_owed h_p0_counted h_p0_inMemory h_p0_onDisk h_p0_thn F mem dsk fresh young dropped released owed counted inMemory_19 onDisk thn moved x1 r41 h41) k_R_116 ⟨rfl, rfl, by decide, by decide⟩ 2 rfl rfl rfl hl hP hD hS [0, 1, 2, 3, 4, 5, 6, 7, 8, 9, 10, 11] [] [0, 1, 2, 3, 4, 5, 6, 7, 8, 9, 10, 11] rfl rfl rfl (by decide) rfl rfl rfl rfl rfl (Nat.le_of_ble_eq_true rfl) rfl d_R_link_41 (fun H locs hP hD hS => ?_)
          refine lv_bipush (v := (nI 8)) hx hb d_R_link_44 (by decide) ?_
          refine lv_icmp_ne hx hb d_R_link_46 rfl (fun hc => ?_) (fun hc => ?_)
          · rw [if_neg hc] at h
            refine lv_aload_n hx hb d_R_link_52 rfl (lv_at hl 0 rfl) ?_
            refine lv_iload_n hx hb d_R_link_53 rfl (lv_at hl 1 rfl) ?_
            obtain ⟨r54, h54, h⟩ := bd_some h
            refine wk_Vi (As := [.int x1]) (rest := []) (wc := (w_R cI cZ h_p0 h_p0_m h_p0_d h_p0_fresh h_p0_young h_p0_dropped h_p0_released h_p0_owed h_p0_counted h_p0_inMemory h_p0_onDisk h_p0_thn mem dsk fresh young dropped released owed counted inMemory_19 onDisk thn moved)) (w1 := (w_R cI cZ h_p0 h_p0_m h_p0_d h_p0_fresh h_p0_young h_p0_dropped h_p0_released h_p0_owed h_p0_counted h_p0_inMemory h_p0_onDisk h_p0_thn mem dsk fresh young dropped released owed counted inMemory_19 onDisk thn moved)) (wr := []) (wz := (w_R cI cZ h_p0 h_p0_m h_p0_d h_p0_fresh h_p0_young h_p0_dropped h_p0_released h_p0_owed h_p0_counted h_p0_inMemory h_p0_onDisk h_p0_thn mem dsk fresh young dropped released owed counted inMemory_19 onDisk thn moved)) cf hK hN hA (c_R_place l D cI cZ h_p0 h_p0_m h_p0_d h_p0_fresh h_p0_young h_p0_dropped h_p0_released h_p0_owed h_p0_counted h_p0_inMemory h_p0_onDisk h_p0_thn F mem dsk fresh young dropped released owed counted inMemory_19 onDisk thn moved x1 r54 h54) k_R_72 ⟨rfl, rfl, by decide, by decide⟩ 2 rfl rfl rfl hl hP hD hS [0, 1, 2, 3, 4, 5, 6, 7, 8, 9, 10, 11] [] [0, 1, 2, 3, 4, 5, 6, 7, 8, 9, 10, 11] rfl rfl rfl (by decide) rfl rfl rfl rfl rfl (Nat.le_of_ble_eq_true rfl) rfl d_R_link_54 (fun H locs hP hD hS => ?_)
            refine lv_if_ge hx hb d_R_link_57 rfl (fun hc => ?_) (fun hc => ?_)
            · rw [if_pos hc] at h
              exact w_R_link_65 h_p0 h_p0_m h_p0_d h_p0_fresh h_p0_young h_p0_dropped h_p0_released h_p0_owed h_p0_counted h_p0_inMemory h_p0_onDisk h_p0_thn F young' dropped' mem' dsk' fresh' released' owed' counted' inMemory' onDisk' thn' moved' r ⟨cf, hr, hlk, hK, hN, hA⟩ x1 x2 x3 young dropped mem dsk fresh released owed counted inMemory_19 onDisk thn moved h H locs ls (lv_sub hl [0, 1, 2, 3] rfl) hP hD hS
            · rw [if_neg hc] at h
              refine lv_aload_n hx hb d_R_link_60 rfl (lv_at hl 0 rfl) ?_
              obtain ⟨⟨r61, young_61, dropped_61, mem_61, dsk_61, fresh_61, released_61, owed_61, counted_61, inMemory_61, onDisk_61, thn_61, moved_61⟩, h61, h⟩ := bd_some h
              dsimp only at h
              refine wk_Vi (As := []) (rest := []) (wc := (w_R cI cZ h_p0 h_p0_m h_p0_d h_p0_fresh h_p0_young h_p0_dropped h_p0_released h_p0_owed h_p0_counted h_p0_inMemory h_p0_onDisk h_p0_thn mem dsk fresh young dropped released owed counted inMemory_19 onDisk thn moved)) (w1 := (w_R cI cZ h_p0 h_p0_m h_p0_d h_p0_fresh h_p0_young h_p0_dropped h_p0_released h_p0_owed h_p0_counted h_p0_inMemory h_p0_onDisk h_p0_thn mem_61 dsk_61 fresh_61 young_61 dropped_61 released_61 owed_61 counted_61 inMemory_61 onDisk_61 thn_61 moved_61)) (wr := []) (wz := (w_R cI cZ h_p0 h_p0_m h_p0_d h_p0_fresh h_p0_young h_p0_dropped h_p0_released h_p0_owed h_p0_counted h_p0_inMemory h_p0_onDisk h_p0_thn mem_61 dsk_61 fresh_61 young_61 dropped_61 released_61 owed_61 counted_61 inMemory_61 onDisk_61 thn_61 moved_61)) cf hK hN hA (c_R_sync l D cI cZ h_p0 h_p0_m h_p0_d h_p0_fresh h_p0_young h_p0_dropped h_p0_released h_p0_owed h_p0_counted h_p0_inMemory h_p0_onDisk h_p0_thn F mem dsk fresh young dropped released owed counted inMemory_19 onDisk thn moved young_61 dropped_61 mem_61 dsk_61 fresh_61 released_61 owed_61 counted_61 inMemory_61 onDisk_61 thn_61 moved_61 r61 h61) k_R_123 ⟨rfl, rfl, by decide, by decide⟩ 2 rfl rfl rfl hl hP hD hS [0, 1, 2, 3, 4, 5, 6, 7, 8, 9, 10, 11] [] [0, 1, 2, 3, 4, 5, 6, 7, 8, 9, 10, 11] rfl rfl rfl (by decide) rfl rfl rfl rfl rfl (Nat.le_of_ble_eq_true rfl) rfl d_R_link_61 (fun H locs hP hD hS => ?_)
              refine lv_pop hx hb d_R_link_64 rfl ?_
              exact w_R_link_65 h_p0 h_p0_m h_p0_d h_p0_fresh h_p0_young h_p0_dropped h_p0_released h_p0_owed h_p0_counted h_p0_inMemory h_p0_onDisk h_p0_thn F young' dropped' mem' dsk' fresh' released' owed' counted' inMemory' onDisk' thn' moved' r ⟨cf, hr, hlk, hK, hN, hA⟩ x1 x2 x3 young_61 dropped_61 mem_61 dsk_61 fresh_61 released_61 owed_61 counted_61 inMemory_61 onDisk_61 thn_61 moved_61 h H locs ls (lv_sub hl [0, 1, 2, 3] rfl) hP hD hS
          · rw [if_pos hc] at h
            refine lv_bipush (v := (-3)) hx hb d_R_link_49 (by decide) ?_
            cases h
            exact sc_iret cf hr hlk hK hP hD hS d_R_link_51
        · rw [if_neg hc] at h
          refine lv_bipush (v := (-2)) hx hb d_R_link_36 (by decide) ?_
          cases h
          exact sc_iret cf hr hlk hK hP hD hS d_R_link_38
      · rw [if_pos hc] at h
        refine lv_iconst (v := (-1)) hx hb d_R_link_25 (by decide) ?_
        cases h
        exact sc_iret cf hr hlk hK hP hD hS d_R_link_26
set_option maxHeartbeats 4000000 in
set_option maxRecDepth 100000 in
theorem c_R_lookup (l : Launch) (D : va_G) (cI cZ : ClassId) (h_p0 h_p0_m h_p0_d h_p0_fresh h_p0_young h_p0_dropped h_p0_released h_p0_owed h_p0_counted h_p0_inMemory h_p0_onDisk h_p0_thn : Nat) (F : Nat) (mem : (Nat → Int32)) (dsk : (Nat → Int32)) (fresh : (Nat → Int32)) (young : (Nat → Int32)) (dropped : (Nat → Int32)) (released : (Nat → Int32)) (owed : (Nat → Int32)) (counted : (Nat → Int32)) (inMemory : (Nat → Int32)) (onDisk : (Nat → Int32)) (thn : (Nat → Int32)) (moved : Int32) (inMemory' : (Nat → Int32)) (x1 : Int32) (x2 : Int32) (r : Int32) (h : s_R_lookup F mem dsk fresh x1 x2 inMemory = some (r, inMemory')) : sc_i l y_R_lookup (o_R_lookup :: wA) rm_R_lookup D cI cZ [.ref h_p0, .int x1, .int x2] (w_R cI cZ h_p0 h_p0_m h_p0_d h_p0_fresh h_p0_young h_p0_dropped h_p0_released h_p0_owed h_p0_counted h_p0_inMemory h_p0_onDisk h_p0_thn mem dsk fresh young dropped released owed counted inMemory onDisk thn moved) (w_R cI cZ h_p0 h_p0_m h_p0_d h_p0_fresh h_p0_young h_p0_dropped h_p0_released h_p0_owed h_p0_counted h_p0_inMemory h_p0_onDisk h_p0_thn mem dsk fresh young dropped released owed counted (inMemory') onDisk thn moved) r := by
  refine sc_i_of (cc := b_R_lookup) (maxL := 4) (ret := (some .int)) (by decide) rfl (Nat.le_of_ble_eq_true rfl) ?_
  intro p e s m below meth c A cf hr hlk hK hN hA H locs ls hl hP hD hS
  have hx := cf.1
  have hb := cf.2.1
  have hown := cf.2.2.2.1
  have ht : ∀ w ∈ wA, w.before _ s = true := fun w h => cf.2.2.2.2 w (List.mem_cons_of_mem _ h)
  unfold s_R_lookup at h
  have hl : lv_has ls 4 [(0, .ref h_p0), (1, .int x1), (2, .int x2)] := hl
  refine lv_iload_n hx hb d_R_lookup_0 rfl (lv_at hl 2 rfl) ?_
  obtain ⟨r1, h1, h⟩ := bd_some h
  refine wk_Si (As := [.int x2]) (rest := []) (wc := []) (w1 := []) (wr := [(h_p0, .inr (2, [.ref h_p0_m, .ref h_p0_d, .ref h_p0_fresh, .ref h_p0_young, .ref h_p0_dropped, .ref h_p0_released, .ref h_p0_owed, .ref h_p0_counted, .ref h_p0_inMemory, .ref h_p0_onDisk, .ref h_p0_thn, .int moved])), (h_p0_m, .inl (cI, 1080, .inl mem)), (h_p0_d, .inl (cI, 1080, .inl dsk)), (h_p0_fresh, .inl (cZ, 36, .inl fresh)), (h_p0_young, .inl (cZ, 288, .inl young)), (h_p0_dropped, .inl (cI, 36, .inl dropped)), (h_p0_released, .inl (cZ, 18, .inl released)), (h_p0_owed, .inl (cI, 18, .inl owed)), (h_p0_counted, .inl (cI, 18, .inl counted)), (h_p0_inMemory, .inl (cZ, 18, .inl inMemory)), (h_p0_onDisk, .inl (cZ, 18, .inl onDisk)), (h_p0_thn, .inl (cZ, 18, .inl thn))]) (wz := (w_R cI cZ h_p0 h_p0_m h_p0_d h_p0_fresh h_p0_young h_p0_dropped h_p0_released h_p0_owed h_p0_counted h_p0_inMemory h_p0_onDisk h_p0_thn mem dsk fresh young dropped released owed counted inMemory onDisk thn moved)) cf hK hN hA (c_R_isName l D cI cZ 0 x2 r1 h1) k_R_106 ⟨rfl, rfl, by decide, by decide⟩ hl hP hD hS [] [0, 1, 2, 3, 4, 5, 6, 7, 8, 9, 10, 11] [0, 1, 2, 3, 4, 5, 6, 7, 8, 9, 10, 11] rfl rfl rfl (by decide) rfl rfl rfl rfl rfl (Nat.le_of_ble_eq_true rfl) rfl d_R_lookup_1 (fun H locs hP hD hS => ?_)
  refine lv_if_eq hx hb d_R_lookup_4 rfl (fun hc => ?_) (fun hc => ?_)
  · rw [if_pos hc] at h
    refine lv_iconst (v := (-1)) hx hb d_R_lookup_16 (by decide) ?_
    cases h
    exact sc_iret cf hr hlk hK hP hD hS d_R_lookup_17
  · rw [if_neg hc] at h
    refine lv_aload_n hx hb d_R_lookup_7 rfl (lv_at hl 0 rfl) ?_
    refine lv_iload_n hx hb d_R_lookup_8 rfl (lv_at hl 1 rfl) ?_
    refine lv_iconst (v := (nI 2)) hx hb d_R_lookup_9 (by decide) ?_
    obtain ⟨⟨r10, inMemory_10⟩, h10, h⟩ := bd_some h
    dsimp only at h
    refine wk_Vi (As := [.int x1, .int (nI 2)]) (rest := []) (wc := (w_R cI cZ h_p0 h_p0_m h_p0_d h_p0_fresh h_p0_young h_p0_dropped h_p0_released h_p0_owed h_p0_counted h_p0_inMemory h_p0_onDisk h_p0_thn mem dsk fresh young dropped released owed counted inMemory onDisk thn moved)) (w1 := (w_R cI cZ h_p0 h_p0_m h_p0_d h_p0_fresh h_p0_young h_p0_dropped h_p0_released h_p0_owed h_p0_counted h_p0_inMemory h_p0_onDisk h_p0_thn mem dsk fresh young dropped released owed counted inMemory_10 onDisk thn moved)) (wr := []) (wz := (w_R cI cZ h_p0 h_p0_m h_p0_d h_p0_fresh h_p0_young h_p0_dropped h_p0_released h_p0_owed h_p0_counted h_p0_inMemory h_p0_onDisk h_p0_thn mem dsk fresh young dropped released owed counted inMemory_10 onDisk thn moved)) cf hK hN hA (c_R_holds l D cI cZ h_p0 h_p0_m h_p0_d h_p0_fresh h_p0_young h_p0_dropped h_p0_released h_p0_owed h_p0_counted h_p0_inMemory h_p0_onDisk h_p0_thn F mem dsk fresh young dropped released owed counted inMemory onDisk thn moved inMemory_10 x1 (nI 2) r10 h10) k_R_109 ⟨rfl, rfl, by decide, by decide⟩ 2 rfl rfl rfl hl hP hD hS [0, 1, 2, 3, 4, 5, 6, 7, 8, 9, 10, 11] [] [0, 1, 2, 3, 4, 5, 6, 7, 8, 9, 10, 11] rfl rfl rfl (by decide) rfl rfl rfl rfl rfl (Nat.le_of_ble_eq_true rfl) rfl d_R_lookup_10 (fun H locs hP hD hS => ?_)
    refine lv_if_ne hx hb d_R_lookup_13 rfl (fun hc => ?_) (fun hc => ?_)
    · rw [if_neg hc] at h
      refine lv_aload_n hx hb d_R_lookup_18 rfl (lv_at hl 0 rfl) ?_
      refine lv_iload_n hx hb d_R_lookup_19 rfl (lv_at hl 1 rfl) ?_
      refine lv_iload_n hx hb d_R_lookup_20 rfl (lv_at hl 2 rfl) ?_
      obtain ⟨r21, h21, h⟩ := bd_some h
      refine wk_Vi (As := [.int x1, .int x2]) (rest := []) (wc := (w_R cI cZ h_p0 h_p0_m h_p0_d h_p0_fresh h_p0_young h_p0_dropped h_p0_released h_p0_owed h_p0_counted h_p0_inMemory h_p0_onDisk h_p0_thn mem dsk fresh young dropped released owed counted inMemory_10 onDisk thn moved)) (w1 := (w_R cI cZ h_p0 h_p0_m h_p0_d h_p0_fresh h_p0_young h_p0_dropped h_p0_released h_p0_owed h_p0_counted h_p0_inMemory h_p0_onDisk h_p0_thn mem dsk fresh young dropped released owed counted inMemory_10 onDisk thn moved)) (wr := []) (wz := (w_R cI cZ h_p0 h_p0_m h_p0_d h_p0_fresh h_p0_young h_p0_dropped h_p0_released h_p0_owed h_p0_counted h_p0_inMemory h_p0_onDisk h_p0_thn mem dsk fresh young dropped released owed counted inMemory_10 onDisk thn moved)) cf hK hN hA (c_R_find l D cI cZ h_p0 h_p0_m h_p0_d h_p0_fresh h_p0_young h_p0_dropped h_p0_released h_p0_owed h_p0_counted h_p0_inMemory h_p0_onDisk h_p0_thn F mem dsk fresh young dropped released owed counted inMemory_10 onDisk thn moved x1 x2 r21 h21) k_R_113 ⟨rfl, rfl, by decide, by decide⟩ 2 rfl rfl rfl hl hP hD hS [0, 1, 2, 3, 4, 5, 6, 7, 8, 9, 10, 11] [] [0, 1, 2, 3, 4, 5, 6, 7, 8, 9, 10, 11] rfl rfl rfl (by decide) rfl rfl rfl rfl rfl (Nat.le_of_ble_eq_true rfl) rfl d_R_lookup_21 (fun H locs hP hD hS => ?_)
      refine lv_istore_n (lv' := [(3, .int r21), (0, .ref h_p0), (1, .int x1), (2, .int x2)]) hx hb d_R_lookup_24 rfl hl (by decide) rfl (fun ls hl => ?_)
      refine lv_iload_n hx hb d_R_lookup_25 rfl (lv_at hl 0 rfl) ?_
      refine lv_if_ge hx hb d_R_lookup_26 rfl (fun hc => ?_) (fun hc => ?_)
      · rw [if_pos hc] at h
        refine lv_aload_n hx hb d_R_lookup_33 rfl (lv_at hl 1 rfl) ?_
        refine va_get (D := D) (ci := 2) (v := .ref h_p0_m) (C := R_R) (T := F_R) (N := 12) hx hb ht in_R hown hK hP 0 rfl rfl 0 (by decide) (ht _ f_R_7) (fun _ h9 => h9) rfl d_R_lookup_34 ?_
        refine lv_bipush (v := (nI 30)) hx hb d_R_lookup_37 (by decide) ?_
        refine lv_aload_n hx hb d_R_lookup_39 rfl (lv_at hl 1 rfl) ?_
        refine va_get (D := D) (ci := 2) (v := .ref h_p0_m) (C := R_R) (T := F_R) (N := 12) hx hb ht in_R hown hK hP 0 rfl rfl 0 (by decide) (ht _ f_R_7) (fun _ h9 => h9) rfl d_R_lookup_40 ?_
        refine lv_iload_n hx hb d_R_lookup_43 rfl (lv_at hl 2 rfl) ?_
        refine lv_iconst (v := (nI 2)) hx hb d_R_lookup_44 (by decide) ?_
        obtain ⟨r45, h45, h⟩ := bd_some h
        refine wk_Si (As := [.int x1, .int (nI 2)]) (rest := [.ref h_p0_m, .int (nI 30), .ref h_p0_m]) (wc := []) (w1 := []) (wr := [(h_p0, .inr (2, [.ref h_p0_m, .ref h_p0_d, .ref h_p0_fresh, .ref h_p0_young, .ref h_p0_dropped, .ref h_p0_released, .ref h_p0_owed, .ref h_p0_counted, .ref h_p0_inMemory, .ref h_p0_onDisk, .ref h_p0_thn, .int moved])), (h_p0_m, .inl (cI, 1080, .inl mem)), (h_p0_d, .inl (cI, 1080, .inl dsk)), (h_p0_fresh, .inl (cZ, 36, .inl fresh)), (h_p0_young, .inl (cZ, 288, .inl young)), (h_p0_dropped, .inl (cI, 36, .inl dropped)), (h_p0_released, .inl (cZ, 18, .inl released)), (h_p0_owed, .inl (cI, 18, .inl owed)), (h_p0_counted, .inl (cI, 18, .inl counted)), (h_p0_inMemory, .inl (cZ, 18, .inl inMemory_10)), (h_p0_onDisk, .inl (cZ, 18, .inl onDisk)), (h_p0_thn, .inl (cZ, 18, .inl thn))]) (wz := (w_R cI cZ h_p0 h_p0_m h_p0_d h_p0_fresh h_p0_young h_p0_dropped h_p0_released h_p0_owed h_p0_counted h_p0_inMemory h_p0_onDisk h_p0_thn mem dsk fresh young dropped released owed counted inMemory_10 onDisk thn moved)) cf hK hN hA (c_R_at l D cI cZ 0 x1 (nI 2) r45 h45) k_R_44 ⟨rfl, rfl, by decide, by decide⟩ hl hP hD hS [] [0, 1, 2, 3, 4, 5, 6, 7, 8, 9, 10, 11] [0, 1, 2, 3, 4, 5, 6, 7, 8, 9, 10, 11] rfl rfl rfl (by decide) rfl rfl rfl rfl rfl (Nat.le_of_ble_eq_true rfl) rfl d_R_lookup_45 (fun H locs hP hD hS => ?_)
        obtain ⟨hin, h⟩ := gr_some h
        refine va_iald hx hb hK hP 1 0 rfl rfl hin d_R_lookup_48 ?_
        generalize mem r45.toNatClampNeg = v48 at h ⊢
        refine lv_imul hx hb d_R_lookup_49 ?_
        refine lv_iload_n hx hb d_R_lookup_50 rfl (lv_at hl 0 rfl) ?_
        refine lv_iadd hx hb d_R_lookup_51 ?_
        obtain ⟨hin, h⟩ := gr_some h
        refine va_iald hx hb hK hP 1 0 rfl rfl hin d_R_lookup_52 ?_
        generalize mem (((nI 30) * v48) + r21).toNatClampNeg = v52 at h ⊢
        refine lv_bipush (v := (nI 32)) hx hb d_R_lookup_53 (by decide) ?_
        refine lv_irem hx hb d_R_lookup_55 (by decide) ?_
        cases h
        exact sc_iret cf hr hlk hK hP hD hS d_R_lookup_56
      · rw [if_neg hc] at h
        refine lv_iconst (v := (-1)) hx hb d_R_lookup_29 (by decide) ?_
        refine lv_goto hx hb d_R_lookup_30 rfl ?_
        cases h
        exact sc_iret cf hr hlk hK hP hD hS d_R_lookup_56
    · rw [if_pos hc] at h
      refine lv_iconst (v := (-1)) hx hb d_R_lookup_16 (by decide) ?_
      cases h
      exact sc_iret cf hr hlk hK hP hD hS d_R_lookup_17
set_option maxHeartbeats 4000000 in
set_option maxRecDepth 100000 in
theorem c_R_read (l : Launch) (D : va_G) (cI cZ : ClassId) (h_p0 h_p0_m h_p0_d h_p0_fresh h_p0_young h_p0_dropped h_p0_released h_p0_owed h_p0_counted h_p0_inMemory h_p0_onDisk h_p0_thn : Nat) (F : Nat) (mem : (Nat → Int32)) (dsk : (Nat → Int32)) (fresh : (Nat → Int32)) (young : (Nat → Int32)) (dropped : (Nat → Int32)) (released : (Nat → Int32)) (owed : (Nat → Int32)) (counted : (Nat → Int32)) (inMemory : (Nat → Int32)) (onDisk : (Nat → Int32)) (thn : (Nat → Int32)) (moved : Int32) (inMemory' : (Nat → Int32)) (x1 : Int32) (x2 : Int32) (r : Int32) (h : s_R_read F mem dsk fresh x1 x2 inMemory = some (r, inMemory')) : sc_i l y_R_read (o_R_read :: wA) rm_R_read D cI cZ [.ref h_p0, .int x1, .int x2] (w_R cI cZ h_p0 h_p0_m h_p0_d h_p0_fresh h_p0_young h_p0_dropped h_p0_released h_p0_owed h_p0_counted h_p0_inMemory h_p0_onDisk h_p0_thn mem dsk fresh young dropped released owed counted inMemory onDisk thn moved) (w_R cI cZ h_p0 h_p0_m h_p0_d h_p0_fresh h_p0_young h_p0_dropped h_p0_released h_p0_owed h_p0_counted h_p0_inMemory h_p0_onDisk h_p0_thn mem dsk fresh young dropped released owed counted (inMemory') onDisk thn moved) r := by
  refine sc_i_of (cc := b_R_read) (maxL := 4) (ret := (some .int)) (by decide) rfl (Nat.le_of_ble_eq_true rfl) ?_
  intro p e s m below meth c A cf hr hlk hK hN hA H locs ls hl hP hD hS
  have hx := cf.1
  have hb := cf.2.1
  have hown := cf.2.2.2.1
  have ht : ∀ w ∈ wA, w.before _ s = true := fun w h => cf.2.2.2.2 w (List.mem_cons_of_mem _ h)
  unfold s_R_read at h
  have hl : lv_has ls 4 [(0, .ref h_p0), (1, .int x1), (2, .int x2)] := hl
  refine lv_iload_n hx hb d_R_read_0 rfl (lv_at hl 2 rfl) ?_
  refine lv_if_lt hx hb d_R_read_1 rfl (fun hc => ?_) (fun hc => ?_)
  · rw [if_pos hc] at h
    refine lv_iconst (v := (nI 0)) hx hb d_R_read_19 (by decide) ?_
    cases h
    exact sc_iret cf hr hlk hK hP hD hS d_R_read_20
  · rw [if_neg hc] at h
    refine lv_iload_n hx hb d_R_read_4 rfl (lv_at hl 2 rfl) ?_
    refine lv_bipush (v := (nI 23)) hx hb d_R_read_5 (by decide) ?_
    refine lv_icmp_gt hx hb d_R_read_7 rfl (fun hc => ?_) (fun hc => ?_)
    · rw [if_pos hc] at h
      refine lv_iconst (v := (nI 0)) hx hb d_R_read_19 (by decide) ?_
      cases h
      exact sc_iret cf hr hlk hK hP hD hS d_R_read_20
    · rw [if_neg hc] at h
      refine lv_aload_n hx hb d_R_read_10 rfl (lv_at hl 0 rfl) ?_
      refine lv_iload_n hx hb d_R_read_11 rfl (lv_at hl 1 rfl) ?_
      refine lv_iconst (v := (nI 1)) hx hb d_R_read_12 (by decide) ?_
      obtain ⟨⟨r13, inMemory_13⟩, h13, h⟩ := bd_some h
      dsimp only at h
      refine wk_Vi (As := [.int x1, .int (nI 1)]) (rest := []) (wc := (w_R cI cZ h_p0 h_p0_m h_p0_d h_p0_fresh h_p0_young h_p0_dropped h_p0_released h_p0_owed h_p0_counted h_p0_inMemory h_p0_onDisk h_p0_thn mem dsk fresh young dropped released owed counted inMemory onDisk thn moved)) (w1 := (w_R cI cZ h_p0 h_p0_m h_p0_d h_p0_fresh h_p0_young h_p0_dropped h_p0_released h_p0_owed h_p0_counted h_p0_inMemory h_p0_onDisk h_p0_thn mem dsk fresh young dropped released owed counted inMemory_13 onDisk thn moved)) (wr := []) (wz := (w_R cI cZ h_p0 h_p0_m h_p0_d h_p0_fresh h_p0_young h_p0_dropped h_p0_released h_p0_owed h_p0_counted h_p0_inMemory h_p0_onDisk h_p0_thn mem dsk fresh young dropped released owed counted inMemory_13 onDisk thn moved)) cf hK hN hA (c_R_holds l D cI cZ h_p0 h_p0_m h_p0_d h_p0_fresh h_p0_young h_p0_dropped h_p0_released h_p0_owed h_p0_counted h_p0_inMemory h_p0_onDisk h_p0_thn F mem dsk fresh young dropped released owed counted inMemory onDisk thn moved inMemory_13 x1 (nI 1) r13 h13) k_R_109 ⟨rfl, rfl, by decide, by decide⟩ 2 rfl rfl rfl hl hP hD hS [0, 1, 2, 3, 4, 5, 6, 7, 8, 9, 10, 11] [] [0, 1, 2, 3, 4, 5, 6, 7, 8, 9, 10, 11] rfl rfl rfl (by decide) rfl rfl rfl rfl rfl (Nat.le_of_ble_eq_true rfl) rfl d_R_read_13 (fun H locs hP hD hS => ?_)
      refine lv_if_ne hx hb d_R_read_16 rfl (fun hc => ?_) (fun hc => ?_)
      · rw [if_neg hc] at h
        refine lv_aload_n hx hb d_R_read_21 rfl (lv_at hl 0 rfl) ?_
        refine va_get (D := D) (ci := 2) (v := .ref h_p0_m) (C := R_R) (T := F_R) (N := 12) hx hb ht in_R hown hK hP 0 rfl rfl 0 (by decide) (ht _ f_R_7) (fun _ h9 => h9) rfl d_R_read_22 ?_
        refine lv_iload_n hx hb d_R_read_25 rfl (lv_at hl 1 rfl) ?_
        refine lv_iconst (v := (nI 2)) hx hb d_R_read_26 (by decide) ?_
        refine lv_iload_n hx hb d_R_read_27 rfl (lv_at hl 2 rfl) ?_
        refine lv_bipush (v := (nI 8)) hx hb d_R_read_28 (by decide) ?_
        refine lv_idiv hx hb d_R_read_30 (by decide) ?_
        refine lv_iadd hx hb d_R_read_31 ?_
        obtain ⟨r32, h32, h⟩ := bd_some h
        refine wk_Si (As := [.int x1, .int ((nI 2) + (x2 / (nI 8)))]) (rest := [.ref h_p0_m]) (wc := []) (w1 := []) (wr := [(h_p0, .inr (2, [.ref h_p0_m, .ref h_p0_d, .ref h_p0_fresh, .ref h_p0_young, .ref h_p0_dropped, .ref h_p0_released, .ref h_p0_owed, .ref h_p0_counted, .ref h_p0_inMemory, .ref h_p0_onDisk, .ref h_p0_thn, .int moved])), (h_p0_m, .inl (cI, 1080, .inl mem)), (h_p0_d, .inl (cI, 1080, .inl dsk)), (h_p0_fresh, .inl (cZ, 36, .inl fresh)), (h_p0_young, .inl (cZ, 288, .inl young)), (h_p0_dropped, .inl (cI, 36, .inl dropped)), (h_p0_released, .inl (cZ, 18, .inl released)), (h_p0_owed, .inl (cI, 18, .inl owed)), (h_p0_counted, .inl (cI, 18, .inl counted)), (h_p0_inMemory, .inl (cZ, 18, .inl inMemory_13)), (h_p0_onDisk, .inl (cZ, 18, .inl onDisk)), (h_p0_thn, .inl (cZ, 18, .inl thn))]) (wz := (w_R cI cZ h_p0 h_p0_m h_p0_d h_p0_fresh h_p0_young h_p0_dropped h_p0_released h_p0_owed h_p0_counted h_p0_inMemory h_p0_onDisk h_p0_thn mem dsk fresh young dropped released owed counted inMemory_13 onDisk thn moved)) cf hK hN hA (c_R_at l D cI cZ 0 x1 ((nI 2) + (x2 / (nI 8))) r32 h32) k_R_44 ⟨rfl, rfl, by decide, by decide⟩ hl hP hD hS [] [0, 1, 2, 3, 4, 5, 6, 7, 8, 9, 10, 11] [0, 1, 2, 3, 4, 5, 6, 7, 8, 9, 10, 11] rfl rfl rfl (by decide) rfl rfl rfl rfl rfl (Nat.le_of_ble_eq_true rfl) rfl d_R_read_32 (fun H locs hP hD hS => ?_)
        obtain ⟨hin, h⟩ := gr_some h
        refine va_iald hx hb hK hP 1 0 rfl rfl hin d_R_read_35 ?_
        generalize mem r32.toNatClampNeg = v35 at h ⊢
        refine lv_istore_n (lv' := [(3, .int v35), (0, .ref h_p0), (1, .int x1), (2, .int x2)]) hx hb d_R_read_36 rfl hl (by decide) rfl (fun ls hl => ?_)
        refine lv_iload_n hx hb d_R_read_37 rfl (lv_at hl 0 rfl) ?_
        refine lv_if_ne hx hb d_R_read_38 rfl (fun hc => ?_) (fun hc => ?_)
        · rw [if_neg hc] at h
          refine lv_aload_n hx hb d_R_read_45 rfl (lv_at hl 1 rfl) ?_
          refine va_get (D := D) (ci := 2) (v := .ref h_p0_m) (C := R_R) (T := F_R) (N := 12) hx hb ht in_R hown hK hP 0 rfl rfl 0 (by decide) (ht _ f_R_7) (fun _ h9 => h9) rfl d_R_read_46 ?_
          refine lv_bipush (v := (nI 30)) hx hb d_R_read_49 (by decide) ?_
          refine lv_iload_n hx hb d_R_read_51 rfl (lv_at hl 0 rfl) ?_
          refine lv_imul hx hb d_R_read_52 ?_
          refine lv_iload_n hx hb d_R_read_53 rfl (lv_at hl 3 rfl) ?_
          refine lv_bipush (v := (nI 8)) hx hb d_R_read_54 (by decide) ?_
          refine lv_irem hx hb d_R_read_56 (by decide) ?_
          refine lv_iadd hx hb d_R_read_57 ?_
          obtain ⟨hin, h⟩ := gr_some h
          refine va_iald hx hb hK hP 1 0 rfl rfl hin d_R_read_58 ?_
          generalize mem (((nI 30) * v35) + (x2 - x2 / (nI 8) * (nI 8))).toNatClampNeg = v58 at h ⊢
          cases h
          exact sc_iret cf hr hlk hK hP hD hS d_R_read_59
        · rw [if_pos hc] at h
          refine lv_iconst (v := (nI 0)) hx hb d_R_read_41 (by decide) ?_
          refine lv_goto hx hb d_R_read_42 rfl ?_
          cases h
          exact sc_iret cf hr hlk hK hP hD hS d_R_read_59
      · rw [if_pos hc] at h
        refine lv_iconst (v := (nI 0)) hx hb d_R_read_19 (by decide) ?_
        cases h
        exact sc_iret cf hr hlk hK hP hD hS d_R_read_20
set_option maxHeartbeats 4000000 in
set_option maxRecDepth 100000 in
theorem w_R_entriesFor_inMemory_154 {p : Program} {l : Launch} {e : Env} {s : State} {m : MethodId} {args : Array Value} {below : List Frame} {meth : Method} {c : Code} {D : va_G} {cI cZ : ClassId} {A : Nat → Prop} (h_p0 h_p0_m h_p0_d h_p0_fresh h_p0_young h_p0_dropped h_p0_released h_p0_owed h_p0_counted h_p0_inMemory h_p0_onDisk h_p0_thn : Nat) (F : Nat) (mem : (Nat → Int32)) (dsk : (Nat → Int32)) (fresh : (Nat → Int32)) (young : (Nat → Int32)) (dropped : (Nat → Int32)) (released : (Nat → Int32)) (owed : (Nat → Int32)) (counted : (Nat → Int32)) (inMemory : (Nat → Int32)) (onDisk : (Nat → Int32)) (thn : (Nat → Int32)) (moved : Int32) (r : Int32) (k6 : Int32 → Int32 → Int32 → Int32 → Option (Int32)) (k78 : Int32 → Int32 → Int32 → Int32 → Int32 → Int32 → Int32 → Option (Int32)) (cx : cx_ok p s m args meth c b_R_entriesFor 10 o_R_entriesFor "OrderedVolumeModel" (some .int) D cI cZ A) (h6 : (∀ (x1 : Int32) (x3 : Int32) (x4 : Int32) (x5 : Int32), k6 x1 x3 x4 x5 = some r → wk_G p l e rm_R_entriesFor s m args below meth c (sc_Qi below args s D cI cZ A (w_R cI cZ h_p0 h_p0_m h_p0_d h_p0_fresh h_p0_young h_p0_dropped h_p0_released h_p0_owed h_p0_counted h_p0_inMemory h_p0_onDisk h_p0_thn mem dsk fresh young dropped released owed counted inMemory onDisk thn moved) r) D A 10 6 [] [(0, .ref h_p0), (2, .ref h_p0_inMemory), (1, .int x1), (3, .int x3), (4, .int x4), (5, .int x5)] (w_R cI cZ h_p0 h_p0_m h_p0_d h_p0_fresh h_p0_young h_p0_dropped h_p0_released h_p0_owed h_p0_counted h_p0_inMemory h_p0_onDisk h_p0_thn mem dsk fresh young dropped released owed counted inMemory onDisk thn moved))) (h78 : (∀ (x1 : Int32) (x3 : Int32) (x4 : Int32) (x5 : Int32) (x6 : Int32) (x7 : Int32) (x8 : Int32), k78 x1 x3 x4 x5 x6 x7 x8 = some r → wk_G p l e rm_R_entriesFor s m args below meth c (sc_Qi below args s D cI cZ A (w_R cI cZ h_p0 h_p0_m h_p0_d h_p0_fresh h_p0_young h_p0_dropped h_p0_released h_p0_owed h_p0_counted h_p0_inMemory h_p0_onDisk h_p0_thn mem dsk fresh young dropped released owed counted inMemory onDisk thn moved) r) D A 10 78 [] [(0, .ref h_p0), (2, .ref h_p0_inMemory), (1, .int x1), (3, .int x3), (4, .int x4), (5, .int x5), (6, .int x6), (7, .int x7), (8, .int x8)] (w_R cI cZ h_p0 h_p0_m h_p0_d h_p0_fresh h_p0_young h_p0_dropped h_p0_released h_p0_owed h_p0_counted h_p0_inMemory h_p0_onDisk h_p0_thn mem dsk fresh young dropped released owed counted inMemory onDisk thn moved))) : ∀ (x1 : Int32) (x3 : Int32) (x4 : Int32) (x5 : Int32) (x6 : Int32) (x7 : Int32) (x8 : Int32), s_R_entriesFor_inMemory_154 F mem dsk fresh inMemory k6 k78 x1 x3 x4 x5 x6 x7 x8 = some r → wk_G p l e rm_R_entriesFor s m args below meth c (sc_Qi below args s D cI cZ A (w_R cI cZ h_p0 h_p0_m h_p0_d h_p0_fresh h_p0_young h_p0_dropped h_p0_released h_p0_owed h_p0_counted h_p0_inMemory h_p0_onDisk h_p0_thn mem dsk fresh young dropped released owed counted inMemory onDisk thn moved) r) D A 10 154 [] [(0, .ref h_p0), (2, .ref h_p0_inMemory), (1, .int x1), (3, .int x3), (4, .int x4), (5, .int x5), (6, .int x6), (7, .int x7), (8, .int x8)] (w_R cI cZ h_p0 h_p0_m h_p0_d h_p0_fresh h_p0_young h_p0_dropped h_p0_released h_p0_owed h_p0_counted h_p0_inMemory h_p0_onDisk h_p0_thn mem dsk fresh young dropped released owed counted inMemory onDisk thn moved) := by
  obtain ⟨cf, hr, hlk, hK, hN, hA⟩ := cx
  have hx := cf.1
  have hb := cf.2.1
  have hown := cf.2.2.2.1
  have ht : ∀ w ∈ wA, w.before args s = true := fun w h => cf.2.2.2.2 w (List.mem_cons_of_mem _ h)
  intro x1 x3 x4 x5 x6 x7 x8 h H locs ls hl hP hD hS
  unfold s_R_entriesFor_inMemory_154 at h
  refine lv_iload hx hb d_R_entriesFor_154 (lv_at hl 4 rfl) ?_
  refine lv_istore (lv' := [(4, .int x4), (0, .ref h_p0), (2, .ref h_p0_inMemory), (1, .int x1), (3, .int x3), (5, .int x5), (6, .int x6), (7, .int x7), (8, .int x8)]) hx hb d_R_entriesFor_156 hl (by decide) rfl (fun ls hl => ?_)
  refine lv_iinc (k := 8) (v := (x8 + (nI 1))) (lv' := [(8, .int (x8 + (nI 1))), (4, .int x4), (0, .ref h_p0), (2, .ref h_p0_inMemory), (1, .int x1), (3, .int x3), (5, .int x5), (6, .int x6), (7, .int x7)]) hx hb d_R_entriesFor_158 hl rfl rfl (by decide) rfl (fun ls hl => ?_)
  refine lv_goto hx hb d_R_entriesFor_161 rfl ?_
  exact h78 x1 x3 x4 x5 x6 x7 (x8 + (nI 1)) h H locs ls (lv_sub hl [2, 3, 4, 5, 1, 6, 7, 8, 0] rfl) hP hD hS
set_option maxHeartbeats 4000000 in
set_option maxRecDepth 100000 in
theorem w_R_entriesFor_inMemory_131 {p : Program} {l : Launch} {e : Env} {s : State} {m : MethodId} {args : Array Value} {below : List Frame} {meth : Method} {c : Code} {D : va_G} {cI cZ : ClassId} {A : Nat → Prop} (h_p0 h_p0_m h_p0_d h_p0_fresh h_p0_young h_p0_dropped h_p0_released h_p0_owed h_p0_counted h_p0_inMemory h_p0_onDisk h_p0_thn : Nat) (F : Nat) (mem : (Nat → Int32)) (dsk : (Nat → Int32)) (fresh : (Nat → Int32)) (young : (Nat → Int32)) (dropped : (Nat → Int32)) (released : (Nat → Int32)) (owed : (Nat → Int32)) (counted : (Nat → Int32)) (inMemory : (Nat → Int32)) (onDisk : (Nat → Int32)) (thn : (Nat → Int32)) (moved : Int32) (r : Int32) (k6 : Int32 → Int32 → Int32 → Int32 → Option (Int32)) (k78 : Int32 → Int32 → Int32 → Int32 → Int32 → Int32 → Int32 → Option (Int32)) (cx : cx_ok p s m args meth c b_R_entriesFor 10 o_R_entriesFor "OrderedVolumeModel" (some .int) D cI cZ A) (h6 : (∀ (x1 : Int32) (x3 : Int32) (x4 : Int32) (x5 : Int32), k6 x1 x3 x4 x5 = some r → wk_G p l e rm_R_entriesFor s m args below meth c (sc_Qi below args s D cI cZ A (w_R cI cZ h_p0 h_p0_m h_p0_d h_p0_fresh h_p0_young h_p0_dropped h_p0_released h_p0_owed h_p0_counted h_p0_inMemory h_p0_onDisk h_p0_thn mem dsk fresh young dropped released owed counted inMemory onDisk thn moved) r) D A 10 6 [] [(0, .ref h_p0), (2, .ref h_p0_inMemory), (1, .int x1), (3, .int x3), (4, .int x4), (5, .int x5)] (w_R cI cZ h_p0 h_p0_m h_p0_d h_p0_fresh h_p0_young h_p0_dropped h_p0_released h_p0_owed h_p0_counted h_p0_inMemory h_p0_onDisk h_p0_thn mem dsk fresh young dropped released owed counted inMemory onDisk thn moved))) (h78 : (∀ (x1 : Int32) (x3 : Int32) (x4 : Int32) (x5 : Int32) (x6 : Int32) (x7 : Int32) (x8 : Int32), k78 x1 x3 x4 x5 x6 x7 x8 = some r → wk_G p l e rm_R_entriesFor s m args below meth c (sc_Qi below args s D cI cZ A (w_R cI cZ h_p0 h_p0_m h_p0_d h_p0_fresh h_p0_young h_p0_dropped h_p0_released h_p0_owed h_p0_counted h_p0_inMemory h_p0_onDisk h_p0_thn mem dsk fresh young dropped released owed counted inMemory onDisk thn moved) r) D A 10 78 [] [(0, .ref h_p0), (2, .ref h_p0_inMemory), (1, .int x1), (3, .int x3), (4, .int x4), (5, .int x5), (6, .int x6), (7, .int x7), (8, .int x8)] (w_R cI cZ h_p0 h_p0_m h_p0_d h_p0_fresh h_p0_young h_p0_dropped h_p0_released h_p0_owed h_p0_counted h_p0_inMemory h_p0_onDisk h_p0_thn mem dsk fresh young dropped released owed counted inMemory onDisk thn moved))) : ∀ (x1 : Int32) (x3 : Int32) (x4 : Int32) (x5 : Int32) (x6 : Int32) (x7 : Int32) (x8 : Int32) (t0 : Int32), s_R_entriesFor_inMemory_131 F mem dsk fresh inMemory k6 k78 x1 x3 x4 x5 x6 x7 x8 t0 = some r → wk_G p l e rm_R_entriesFor s m args below meth c (sc_Qi below args s D cI cZ A (w_R cI cZ h_p0 h_p0_m h_p0_d h_p0_fresh h_p0_young h_p0_dropped h_p0_released h_p0_owed h_p0_counted h_p0_inMemory h_p0_onDisk h_p0_thn mem dsk fresh young dropped released owed counted inMemory onDisk thn moved) r) D A 10 131 [.int t0] [(0, .ref h_p0), (2, .ref h_p0_inMemory), (1, .int x1), (3, .int x3), (4, .int x4), (5, .int x5), (6, .int x6), (7, .int x7), (8, .int x8)] (w_R cI cZ h_p0 h_p0_m h_p0_d h_p0_fresh h_p0_young h_p0_dropped h_p0_released h_p0_owed h_p0_counted h_p0_inMemory h_p0_onDisk h_p0_thn mem dsk fresh young dropped released owed counted inMemory onDisk thn moved) := by
  obtain ⟨cf, hr, hlk, hK, hN, hA⟩ := cx
  have hx := cf.1
  have hb := cf.2.1
  have hown := cf.2.2.2.1
  have ht : ∀ w ∈ wA, w.before args s = true := fun w h => cf.2.2.2.2 w (List.mem_cons_of_mem _ h)
  intro x1 x3 x4 x5 x6 x7 x8 t0 h H locs ls hl hP hD hS
  unfold s_R_entriesFor_inMemory_131 at h
  refine lv_istore (lv' := [(9, .int t0), (0, .ref h_p0), (2, .ref h_p0_inMemory), (1, .int x1), (3, .int x3), (4, .int x4), (5, .int x5), (6, .int x6), (7, .int x7), (8, .int x8)]) hx hb d_R_entriesFor_131 hl (by decide) rfl (fun ls hl => ?_)
  refine lv_iload hx hb d_R_entriesFor_133 (lv_at hl 0 rfl) ?_
  refine lv_if_eq hx hb d_R_entriesFor_135 rfl (fun hc => ?_) (fun hc => ?_)
  · rw [if_pos hc] at h
    exact w_R_entriesFor_inMemory_154 h_p0 h_p0_m h_p0_d h_p0_fresh h_p0_young h_p0_dropped h_p0_released h_p0_owed h_p0_counted h_p0_inMemory h_p0_onDisk h_p0_thn F mem dsk fresh young dropped released owed counted inMemory onDisk thn moved r _ _ ⟨cf, hr, hlk, hK, hN, hA⟩ h6 h78 x1 x3 x4 x5 x6 x7 x8 h H locs ls (lv_sub hl [1, 2, 3, 4, 5, 6, 7, 8, 9] rfl) hP hD hS
  · rw [if_neg hc] at h
    refine lv_iload hx hb d_R_entriesFor_138 (lv_at hl 0 rfl) ?_
    refine lv_bipush (v := (nI 32)) hx hb d_R_entriesFor_140 (by decide) ?_
    refine lv_irem hx hb d_R_entriesFor_142 (by decide) ?_
    refine lv_iload_n hx hb d_R_entriesFor_143 rfl (lv_at hl 4 rfl) ?_
    refine lv_icmp_ne hx hb d_R_entriesFor_144 rfl (fun hc => ?_) (fun hc => ?_)
    · rw [if_neg hc] at h
      exact w_R_entriesFor_inMemory_154 h_p0 h_p0_m h_p0_d h_p0_fresh h_p0_young h_p0_dropped h_p0_released h_p0_owed h_p0_counted h_p0_inMemory h_p0_onDisk h_p0_thn F mem dsk fresh young dropped released owed counted inMemory onDisk thn moved r _ _ ⟨cf, hr, hlk, hK, hN, hA⟩ h6 h78 x1 x3 x4 x5 x6 x7 x8 h H locs ls (lv_sub hl [1, 2, 3, 4, 5, 6, 7, 8, 9] rfl) hP hD hS
    · rw [if_pos hc] at h
      refine lv_iload hx hb d_R_entriesFor_147 (lv_at hl 5 rfl) ?_
      refine lv_iconst (v := (nI 1)) hx hb d_R_entriesFor_149 (by decide) ?_
      refine lv_iadd hx hb d_R_entriesFor_150 ?_
      refine lv_goto hx hb d_R_entriesFor_151 rfl ?_
      refine lv_istore (lv' := [(4, .int (x4 + (nI 1))), (9, .int t0), (0, .ref h_p0), (2, .ref h_p0_inMemory), (1, .int x1), (3, .int x3), (5, .int x5), (6, .int x6), (7, .int x7), (8, .int x8)]) hx hb d_R_entriesFor_156 hl (by decide) rfl (fun ls hl => ?_)
      refine lv_iinc (k := 9) (v := (x8 + (nI 1))) (lv' := [(8, .int (x8 + (nI 1))), (4, .int (x4 + (nI 1))), (9, .int t0), (0, .ref h_p0), (2, .ref h_p0_inMemory), (1, .int x1), (3, .int x3), (5, .int x5), (6, .int x6), (7, .int x7)]) hx hb d_R_entriesFor_158 hl rfl rfl (by decide) rfl (fun ls hl => ?_)
      refine lv_goto hx hb d_R_entriesFor_161 rfl ?_
      exact h78 x1 x3 (x4 + (nI 1)) x5 x6 x7 (x8 + (nI 1)) h H locs ls (lv_sub hl [3, 4, 5, 6, 1, 7, 8, 9, 0] rfl) hP hD hS
set_option maxHeartbeats 4000000 in
set_option maxRecDepth 100000 in
theorem w_R_entriesFor_inMemory_78 {p : Program} {l : Launch} {e : Env} {s : State} {m : MethodId} {args : Array Value} {below : List Frame} {meth : Method} {c : Code} {D : va_G} {cI cZ : ClassId} {A : Nat → Prop} (h_p0 h_p0_m h_p0_d h_p0_fresh h_p0_young h_p0_dropped h_p0_released h_p0_owed h_p0_counted h_p0_inMemory h_p0_onDisk h_p0_thn : Nat) (F : Nat) (mem : (Nat → Int32)) (dsk : (Nat → Int32)) (fresh : (Nat → Int32)) (young : (Nat → Int32)) (dropped : (Nat → Int32)) (released : (Nat → Int32)) (owed : (Nat → Int32)) (counted : (Nat → Int32)) (inMemory : (Nat → Int32)) (onDisk : (Nat → Int32)) (thn : (Nat → Int32)) (moved : Int32) (r : Int32) (k6 : Int32 → Int32 → Int32 → Int32 → Option (Int32)) (cx : cx_ok p s m args meth c b_R_entriesFor 10 o_R_entriesFor "OrderedVolumeModel" (some .int) D cI cZ A) (h6 : (∀ (x1 : Int32) (x3 : Int32) (x4 : Int32) (x5 : Int32), k6 x1 x3 x4 x5 = some r → wk_G p l e rm_R_entriesFor s m args below meth c (sc_Qi below args s D cI cZ A (w_R cI cZ h_p0 h_p0_m h_p0_d h_p0_fresh h_p0_young h_p0_dropped h_p0_released h_p0_owed h_p0_counted h_p0_inMemory h_p0_onDisk h_p0_thn mem dsk fresh young dropped released owed counted inMemory onDisk thn moved) r) D A 10 6 [] [(0, .ref h_p0), (2, .ref h_p0_inMemory), (1, .int x1), (3, .int x3), (4, .int x4), (5, .int x5)] (w_R cI cZ h_p0 h_p0_m h_p0_d h_p0_fresh h_p0_young h_p0_dropped h_p0_released h_p0_owed h_p0_counted h_p0_inMemory h_p0_onDisk h_p0_thn mem dsk fresh young dropped released owed counted inMemory onDisk thn moved))) : ∀ (n : Nat) (x1 : Int32) (x3 : Int32) (x4 : Int32) (x5 : Int32) (x6 : Int32) (x7 : Int32) (x8 : Int32), s_R_entriesFor_inMemory_78 F mem dsk fresh inMemory k6 n x1 x3 x4 x5 x6 x7 x8 = some r → wk_G p l e rm_R_entriesFor s m args below meth c (sc_Qi below args s D cI cZ A (w_R cI cZ h_p0 h_p0_m h_p0_d h_p0_fresh h_p0_young h_p0_dropped h_p0_released h_p0_owed h_p0_counted h_p0_inMemory h_p0_onDisk h_p0_thn mem dsk fresh young dropped released owed counted inMemory onDisk thn moved) r) D A 10 78 [] [(0, .ref h_p0), (2, .ref h_p0_inMemory), (1, .int x1), (3, .int x3), (4, .int x4), (5, .int x5), (6, .int x6), (7, .int x7), (8, .int x8)] (w_R cI cZ h_p0 h_p0_m h_p0_d h_p0_fresh h_p0_young h_p0_dropped h_p0_released h_p0_owed h_p0_counted h_p0_inMemory h_p0_onDisk h_p0_thn mem dsk fresh young dropped released owed counted inMemory onDisk thn moved) := by
  obtain ⟨cf, hr, hlk, hK, hN, hA⟩ := cx
  have hx := cf.1
  have hb := cf.2.1
  have hown := cf.2.2.2.1
  have ht : ∀ w ∈ wA, w.before args s = true := fun w h => cf.2.2.2.2 w (List.mem_cons_of_mem _ h)
  intro n
  induction n with
  | zero => intro x1 x3 x4 x5 x6 x7 x8 h; cases (show (none : Option (Int32)) = some _ from h)
  | succ n ih =>
    intro x1 x3 x4 x5 x6 x7 x8 h H locs ls hl hP hD hS
    unfold s_R_entriesFor_inMemory_78 at h
    refine lv_iload hx hb d_R_entriesFor_78 (lv_at hl 8 rfl) ?_
    refine lv_bipush (v := (nI 8)) hx hb d_R_entriesFor_80 (by decide) ?_
    refine lv_icmp_ge hx hb d_R_entriesFor_82 rfl (fun hc => ?_) (fun hc => ?_)
    · rw [if_pos hc] at h
      refine lv_iinc (k := 5) (v := (x5 + (nI 1))) (lv' := [(5, .int (x5 + (nI 1))), (0, .ref h_p0), (2, .ref h_p0_inMemory), (1, .int x1), (3, .int x3), (4, .int x4), (6, .int x6), (7, .int x7), (8, .int x8)]) hx hb d_R_entriesFor_164 hl rfl rfl (by decide) rfl (fun ls hl => ?_)
      refine lv_goto hx hb d_R_entriesFor_167 rfl ?_
      exact h6 x1 x3 x4 (x5 + (nI 1)) h H locs ls (lv_sub hl [1, 2, 3, 4, 5, 0] rfl) hP hD hS
    · rw [if_neg hc] at h
      refine lv_aload_n hx hb d_R_entriesFor_85 rfl (lv_at hl 1 rfl) ?_
      refine lv_iload hx hb d_R_entriesFor_86 (lv_at hl 5 rfl) ?_
      obtain ⟨hin, h⟩ := gr_some h
      refine va_zald hx hb hK hP 9 1 rfl rfl hin d_R_entriesFor_88 ?_
      generalize inMemory x5.toNatClampNeg = v88 at h ⊢
      refine lv_if_eq hx hb d_R_entriesFor_89 rfl (fun hc => ?_) (fun hc => ?_)
      · rw [if_pos hc] at h
        refine lv_iinc (k := 5) (v := (x5 + (nI 1))) (lv' := [(5, .int (x5 + (nI 1))), (0, .ref h_p0), (2, .ref h_p0_inMemory), (1, .int x1), (3, .int x3), (4, .int x4), (6, .int x6), (7, .int x7), (8, .int x8)]) hx hb d_R_entriesFor_164 hl rfl rfl (by decide) rfl (fun ls hl => ?_)
        refine lv_goto hx hb d_R_entriesFor_167 rfl ?_
        exact h6 x1 x3 x4 (x5 + (nI 1)) h H locs ls (lv_sub hl [1, 2, 3, 4, 5, 0] rfl) hP hD hS
      · rw [if_neg hc] at h
        refine lv_iload hx hb d_R_entriesFor_92 (lv_at hl 6 rfl) ?_
        refine lv_iconst (v := (nI 2)) hx hb d_R_entriesFor_94 (by decide) ?_
        refine lv_icmp_ne hx hb d_R_entriesFor_95 rfl (fun hc => ?_) (fun hc => ?_)
        · rw [if_neg hc] at h
          refine lv_iinc (k := 5) (v := (x5 + (nI 1))) (lv' := [(5, .int (x5 + (nI 1))), (0, .ref h_p0), (2, .ref h_p0_inMemory), (1, .int x1), (3, .int x3), (4, .int x4), (6, .int x6), (7, .int x7), (8, .int x8)]) hx hb d_R_entriesFor_164 hl rfl rfl (by decide) rfl (fun ls hl => ?_)
          refine lv_goto hx hb d_R_entriesFor_167 rfl ?_
          exact h6 x1 x3 x4 (x5 + (nI 1)) h H locs ls (lv_sub hl [1, 2, 3, 4, 5, 0] rfl) hP hD hS
        · rw [if_pos hc] at h
          refine lv_iload hx hb d_R_entriesFor_98 (lv_at hl 7 rfl) ?_
          refine lv_if_eq hx hb d_R_entriesFor_100 rfl (fun hc => ?_) (fun hc => ?_)
          · rw [if_pos hc] at h
            refine lv_iinc (k := 5) (v := (x5 + (nI 1))) (lv' := [(5, .int (x5 + (nI 1))), (0, .ref h_p0), (2, .ref h_p0_inMemory), (1, .int x1), (3, .int x3), (4, .int x4), (6, .int x6), (7, .int x7), (8, .int x8)]) hx hb d_R_entriesFor_164 hl rfl rfl (by decide) rfl (fun ls hl => ?_)
            refine lv_goto hx hb d_R_entriesFor_167 rfl ?_
            exact h6 x1 x3 x4 (x5 + (nI 1)) h H locs ls (lv_sub hl [1, 2, 3, 4, 5, 0] rfl) hP hD hS
          · rw [if_neg hc] at h
            refine lv_iload_n hx hb d_R_entriesFor_103 rfl (lv_at hl 2 rfl) ?_
            refine lv_if_eq hx hb d_R_entriesFor_104 rfl (fun hc => ?_) (fun hc => ?_)
            · rw [if_pos hc] at h
              refine lv_aload_n hx hb d_R_entriesFor_118 rfl (lv_at hl 0 rfl) ?_
              refine va_get (D := D) (ci := 2) (v := .ref h_p0_m) (C := R_R) (T := F_R) (N := 12) hx hb ht in_R hown hK hP 0 rfl rfl 0 (by decide) (ht _ f_R_7) (fun _ h9 => h9) rfl d_R_entriesFor_119 ?_
              refine lv_bipush (v := (nI 30)) hx hb d_R_entriesFor_122 (by decide) ?_
              refine lv_iload hx hb d_R_entriesFor_124 (lv_at hl 7 rfl) ?_
              refine lv_imul hx hb d_R_entriesFor_126 ?_
              refine lv_iload hx hb d_R_entriesFor_127 (lv_at hl 8 rfl) ?_
              refine lv_iadd hx hb d_R_entriesFor_129 ?_
              obtain ⟨hin, h⟩ := gr_some h
              refine va_iald hx hb hK hP 1 0 rfl rfl hin d_R_entriesFor_130 ?_
              generalize mem (((nI 30) * x7) + x8).toNatClampNeg = v130 at h ⊢
              exact w_R_entriesFor_inMemory_131 h_p0 h_p0_m h_p0_d h_p0_fresh h_p0_young h_p0_dropped h_p0_released h_p0_owed h_p0_counted h_p0_inMemory h_p0_onDisk h_p0_thn F mem dsk fresh young dropped released owed counted inMemory onDisk thn moved r _ _ ⟨cf, hr, hlk, hK, hN, hA⟩ h6 ih x1 x3 x4 x5 x6 x7 x8 v130 h H locs ls (lv_sub hl [0, 1, 2, 3, 4, 5, 6, 7, 8] rfl) hP hD hS
            · rw [if_neg hc] at h
              refine lv_aload_n hx hb d_R_entriesFor_107 rfl (lv_at hl 0 rfl) ?_
              refine lv_iload hx hb d_R_entriesFor_108 (lv_at hl 7 rfl) ?_
              refine lv_iload hx hb d_R_entriesFor_110 (lv_at hl 8 rfl) ?_
              obtain ⟨r112, h112, h⟩ := bd_some h
              refine wk_Vi (As := [.int x7, .int x8]) (rest := []) (wc := (w_R cI cZ h_p0 h_p0_m h_p0_d h_p0_fresh h_p0_young h_p0_dropped h_p0_released h_p0_owed h_p0_counted h_p0_inMemory h_p0_onDisk h_p0_thn mem dsk fresh young dropped released owed counted inMemory onDisk thn moved)) (w1 := (w_R cI cZ h_p0 h_p0_m h_p0_d h_p0_fresh h_p0_young h_p0_dropped h_p0_released h_p0_owed h_p0_counted h_p0_inMemory h_p0_onDisk h_p0_thn mem dsk fresh young dropped released owed counted inMemory onDisk thn moved)) (wr := []) (wz := (w_R cI cZ h_p0 h_p0_m h_p0_d h_p0_fresh h_p0_young h_p0_dropped h_p0_released h_p0_owed h_p0_counted h_p0_inMemory h_p0_onDisk h_p0_thn mem dsk fresh young dropped released owed counted inMemory onDisk thn moved)) cf hK hN hA (c_R_seen l D cI cZ h_p0 h_p0_m h_p0_d h_p0_fresh h_p0_young h_p0_dropped h_p0_released h_p0_owed h_p0_counted h_p0_inMemory h_p0_onDisk h_p0_thn mem dsk fresh young dropped released owed counted inMemory onDisk thn moved x7 x8 r112 h112) k_R_66 ⟨rfl, rfl, by decide, by decide⟩ 2 rfl rfl rfl hl hP hD hS [0, 1, 2, 3, 4, 5, 6, 7, 8, 9, 10, 11] [] [0, 1, 2, 3, 4, 5, 6, 7, 8, 9, 10, 11] rfl rfl rfl (by decide) rfl rfl rfl rfl rfl (Nat.le_of_ble_eq_true rfl) rfl d_R_entriesFor_112 (fun H locs hP hD hS => ?_)
              refine lv_goto hx hb d_R_entriesFor_115 rfl ?_
              exact w_R_entriesFor_inMemory_131 h_p0 h_p0_m h_p0_d h_p0_fresh h_p0_young h_p0_dropped h_p0_released h_p0_owed h_p0_counted h_p0_inMemory h_p0_onDisk h_p0_thn F mem dsk fresh young dropped released owed counted inMemory onDisk thn moved r _ _ ⟨cf, hr, hlk, hK, hN, hA⟩ h6 ih x1 x3 x4 x5 x6 x7 x8 r112 h H locs ls (lv_sub hl [0, 1, 2, 3, 4, 5, 6, 7, 8] rfl) hP hD hS
set_option maxHeartbeats 4000000 in
set_option maxRecDepth 100000 in
theorem w_R_entriesFor_inMemory_73 {p : Program} {l : Launch} {e : Env} {s : State} {m : MethodId} {args : Array Value} {below : List Frame} {meth : Method} {c : Code} {D : va_G} {cI cZ : ClassId} {A : Nat → Prop} (h_p0 h_p0_m h_p0_d h_p0_fresh h_p0_young h_p0_dropped h_p0_released h_p0_owed h_p0_counted h_p0_inMemory h_p0_onDisk h_p0_thn : Nat) (F : Nat) (mem : (Nat → Int32)) (dsk : (Nat → Int32)) (fresh : (Nat → Int32)) (young : (Nat → Int32)) (dropped : (Nat → Int32)) (released : (Nat → Int32)) (owed : (Nat → Int32)) (counted : (Nat → Int32)) (inMemory : (Nat → Int32)) (onDisk : (Nat → Int32)) (thn : (Nat → Int32)) (moved : Int32) (r : Int32) (k6 : Int32 → Int32 → Int32 → Int32 → Option (Int32)) (cx : cx_ok p s m args meth c b_R_entriesFor 10 o_R_entriesFor "OrderedVolumeModel" (some .int) D cI cZ A) (h6 : (∀ (x1 : Int32) (x3 : Int32) (x4 : Int32) (x5 : Int32), k6 x1 x3 x4 x5 = some r → wk_G p l e rm_R_entriesFor s m args below meth c (sc_Qi below args s D cI cZ A (w_R cI cZ h_p0 h_p0_m h_p0_d h_p0_fresh h_p0_young h_p0_dropped h_p0_released h_p0_owed h_p0_counted h_p0_inMemory h_p0_onDisk h_p0_thn mem dsk fresh young dropped released owed counted inMemory onDisk thn moved) r) D A 10 6 [] [(0, .ref h_p0), (2, .ref h_p0_inMemory), (1, .int x1), (3, .int x3), (4, .int x4), (5, .int x5)] (w_R cI cZ h_p0 h_p0_m h_p0_d h_p0_fresh h_p0_young h_p0_dropped h_p0_released h_p0_owed h_p0_counted h_p0_inMemory h_p0_onDisk h_p0_thn mem dsk fresh young dropped released owed counted inMemory onDisk thn moved))) : ∀ (x1 : Int32) (x3 : Int32) (x4 : Int32) (x5 : Int32) (x6 : Int32) (t0 : Int32), s_R_entriesFor_inMemory_73 F mem dsk fresh inMemory k6 x1 x3 x4 x5 x6 t0 = some r → wk_G p l e rm_R_entriesFor s m args below meth c (sc_Qi below args s D cI cZ A (w_R cI cZ h_p0 h_p0_m h_p0_d h_p0_fresh h_p0_young h_p0_dropped h_p0_released h_p0_owed h_p0_counted h_p0_inMemory h_p0_onDisk h_p0_thn mem dsk fresh young dropped released owed counted inMemory onDisk thn moved) r) D A 10 73 [.int t0] [(0, .ref h_p0), (2, .ref h_p0_inMemory), (1, .int x1), (3, .int x3), (4, .int x4), (5, .int x5), (6, .int x6)] (w_R cI cZ h_p0 h_p0_m h_p0_d h_p0_fresh h_p0_young h_p0_dropped h_p0_released h_p0_owed h_p0_counted h_p0_inMemory h_p0_onDisk h_p0_thn mem dsk fresh young dropped released owed counted inMemory onDisk thn moved) := by
  obtain ⟨cf, hr, hlk, hK, hN, hA⟩ := cx
  have hx := cf.1
  have hb := cf.2.1
  have hown := cf.2.2.2.1
  have ht : ∀ w ∈ wA, w.before args s = true := fun w h => cf.2.2.2.2 w (List.mem_cons_of_mem _ h)
  intro x1 x3 x4 x5 x6 t0 h H locs ls hl hP hD hS
  unfold s_R_entriesFor_inMemory_73 at h
  refine lv_istore (lv' := [(7, .int t0), (0, .ref h_p0), (2, .ref h_p0_inMemory), (1, .int x1), (3, .int x3), (4, .int x4), (5, .int x5), (6, .int x6)]) hx hb d_R_entriesFor_73 hl (by decide) rfl (fun ls hl => ?_)
  refine lv_iconst (v := (nI 0)) hx hb d_R_entriesFor_75 (by decide) ?_
  refine lv_istore (lv' := [(8, .int (nI 0)), (7, .int t0), (0, .ref h_p0), (2, .ref h_p0_inMemory), (1, .int x1), (3, .int x3), (4, .int x4), (5, .int x5), (6, .int x6)]) hx hb d_R_entriesFor_76 hl (by decide) rfl (fun ls hl => ?_)
  exact w_R_entriesFor_inMemory_78 h_p0 h_p0_m h_p0_d h_p0_fresh h_p0_young h_p0_dropped h_p0_released h_p0_owed h_p0_counted h_p0_inMemory h_p0_onDisk h_p0_thn F mem dsk fresh young dropped released owed counted inMemory onDisk thn moved r _ ⟨cf, hr, hlk, hK, hN, hA⟩ h6 F x1 x3 x4 x5 x6 t0 (nI 0) h H locs ls (lv_sub hl [2, 3, 4, 5, 6, 7, 8, 1, 0] rfl) hP hD hS
set_option maxHeartbeats 4000000 in
set_option maxRecDepth 100000 in
theorem w_R_entriesFor_inMemory_42 {p : Program} {l : Launch} {e : Env} {s : State} {m : MethodId} {args : Array Value} {below : List Frame} {meth : Method} {c : Code} {D : va_G} {cI cZ : ClassId} {A : Nat → Prop} (h_p0 h_p0_m h_p0_d h_p0_fresh h_p0_young h_p0_dropped h_p0_released h_p0_owed h_p0_counted h_p0_inMemory h_p0_onDisk h_p0_thn : Nat) (F : Nat) (mem : (Nat → Int32)) (dsk : (Nat → Int32)) (fresh : (Nat → Int32)) (young : (Nat → Int32)) (dropped : (Nat → Int32)) (released : (Nat → Int32)) (owed : (Nat → Int32)) (counted : (Nat → Int32)) (inMemory : (Nat → Int32)) (onDisk : (Nat → Int32)) (thn : (Nat → Int32)) (moved : Int32) (r : Int32) (k6 : Int32 → Int32 → Int32 → Int32 → Option (Int32)) (cx : cx_ok p s m args meth c b_R_entriesFor 10 o_R_entriesFor "OrderedVolumeModel" (some .int) D cI cZ A) (h6 : (∀ (x1 : Int32) (x3 : Int32) (x4 : Int32) (x5 : Int32), k6 x1 x3 x4 x5 = some r → wk_G p l e rm_R_entriesFor s m args below meth c (sc_Qi below args s D cI cZ A (w_R cI cZ h_p0 h_p0_m h_p0_d h_p0_fresh h_p0_young h_p0_dropped h_p0_released h_p0_owed h_p0_counted h_p0_inMemory h_p0_onDisk h_p0_thn mem dsk fresh young dropped released owed counted inMemory onDisk thn moved) r) D A 10 6 [] [(0, .ref h_p0), (2, .ref h_p0_inMemory), (1, .int x1), (3, .int x3), (4, .int x4), (5, .int x5)] (w_R cI cZ h_p0 h_p0_m h_p0_d h_p0_fresh h_p0_young h_p0_dropped h_p0_released h_p0_owed h_p0_counted h_p0_inMemory h_p0_onDisk h_p0_thn mem dsk fresh young dropped released owed counted inMemory onDisk thn moved))) : ∀ (x1 : Int32) (x3 : Int32) (x4 : Int32) (x5 : Int32) (t0 : Int32), s_R_entriesFor_inMemory_42 F mem dsk fresh inMemory k6 x1 x3 x4 x5 t0 = some r → wk_G p l e rm_R_entriesFor s m args below meth c (sc_Qi below args s D cI cZ A (w_R cI cZ h_p0 h_p0_m h_p0_d h_p0_fresh h_p0_young h_p0_dropped h_p0_released h_p0_owed h_p0_counted h_p0_inMemory h_p0_onDisk h_p0_thn mem dsk fresh young dropped released owed counted inMemory onDisk thn moved) r) D A 10 42 [.int t0] [(0, .ref h_p0), (2, .ref h_p0_inMemory), (1, .int x1), (3, .int x3), (4, .int x4), (5, .int x5)] (w_R cI cZ h_p0 h_p0_m h_p0_d h_p0_fresh h_p0_young h_p0_dropped h_p0_released h_p0_owed h_p0_counted h_p0_inMemory h_p0_onDisk h_p0_thn mem dsk fresh young dropped released owed counted inMemory onDisk thn moved) := by
  obtain ⟨cf, hr, hlk, hK, hN, hA⟩ := cx
  have hx := cf.1
  have hb := cf.2.1
  have hown := cf.2.2.2.1
  have ht : ∀ w ∈ wA, w.before args s = true := fun w h => cf.2.2.2.2 w (List.mem_cons_of_mem _ h)
  intro x1 x3 x4 x5 t0 h H locs ls hl hP hD hS
  unfold s_R_entriesFor_inMemory_42 at h
  refine lv_istore (lv' := [(6, .int t0), (0, .ref h_p0), (2, .ref h_p0_inMemory), (1, .int x1), (3, .int x3), (4, .int x4), (5, .int x5)]) hx hb d_R_entriesFor_42 hl (by decide) rfl (fun ls hl => ?_)
  refine lv_iload_n hx hb d_R_entriesFor_44 rfl (lv_at hl 3 rfl) ?_
  refine lv_if_eq hx hb d_R_entriesFor_45 rfl (fun hc => ?_) (fun hc => ?_)
  · rw [if_pos hc] at h
    refine lv_aload_n hx hb d_R_entriesFor_62 rfl (lv_at hl 1 rfl) ?_
    refine va_get (D := D) (ci := 2) (v := .ref h_p0_m) (C := R_R) (T := F_R) (N := 12) hx hb ht in_R hown hK hP 0 rfl rfl 0 (by decide) (ht _ f_R_7) (fun _ h9 => h9) rfl d_R_entriesFor_63 ?_
    refine lv_iload hx hb d_R_entriesFor_66 (lv_at hl 6 rfl) ?_
    refine lv_iconst (v := (nI 2)) hx hb d_R_entriesFor_68 (by decide) ?_
    obtain ⟨r69, h69, h⟩ := bd_some h
    refine wk_Si (As := [.int x5, .int (nI 2)]) (rest := [.ref h_p0_m]) (wc := []) (w1 := []) (wr := [(h_p0, .inr (2, [.ref h_p0_m, .ref h_p0_d, .ref h_p0_fresh, .ref h_p0_young, .ref h_p0_dropped, .ref h_p0_released, .ref h_p0_owed, .ref h_p0_counted, .ref h_p0_inMemory, .ref h_p0_onDisk, .ref h_p0_thn, .int moved])), (h_p0_m, .inl (cI, 1080, .inl mem)), (h_p0_d, .inl (cI, 1080, .inl dsk)), (h_p0_fresh, .inl (cZ, 36, .inl fresh)), (h_p0_young, .inl (cZ, 288, .inl young)), (h_p0_dropped, .inl (cI, 36, .inl dropped)), (h_p0_released, .inl (cZ, 18, .inl released)), (h_p0_owed, .inl (cI, 18, .inl owed)), (h_p0_counted, .inl (cI, 18, .inl counted)), (h_p0_inMemory, .inl (cZ, 18, .inl inMemory)), (h_p0_onDisk, .inl (cZ, 18, .inl onDisk)), (h_p0_thn, .inl (cZ, 18, .inl thn))]) (wz := (w_R cI cZ h_p0 h_p0_m h_p0_d h_p0_fresh h_p0_young h_p0_dropped h_p0_released h_p0_owed h_p0_counted h_p0_inMemory h_p0_onDisk h_p0_thn mem dsk fresh young dropped released owed counted inMemory onDisk thn moved)) cf hK hN hA (c_R_at l D cI cZ 0 x5 (nI 2) r69 h69) k_R_44 ⟨rfl, rfl, by decide, by decide⟩ hl hP hD hS [] [0, 1, 2, 3, 4, 5, 6, 7, 8, 9, 10, 11] [0, 1, 2, 3, 4, 5, 6, 7, 8, 9, 10, 11] rfl rfl rfl (by decide) rfl rfl rfl rfl rfl (Nat.le_of_ble_eq_true rfl) rfl d_R_entriesFor_69 (fun H locs hP hD hS => ?_)
    obtain ⟨hin, h⟩ := gr_some h
    refine va_iald hx hb hK hP 1 0 rfl rfl hin d_R_entriesFor_72 ?_
    generalize mem r69.toNatClampNeg = v72 at h ⊢
    exact w_R_entriesFor_inMemory_73 h_p0 h_p0_m h_p0_d h_p0_fresh h_p0_young h_p0_dropped h_p0_released h_p0_owed h_p0_counted h_p0_inMemory h_p0_onDisk h_p0_thn F mem dsk fresh young dropped released owed counted inMemory onDisk thn moved r _ ⟨cf, hr, hlk, hK, hN, hA⟩ h6 x1 x3 x4 x5 t0 v72 h H locs ls (lv_sub hl [1, 2, 3, 4, 5, 6, 0] rfl) hP hD hS
  · rw [if_neg hc] at h
    refine lv_aload_n hx hb d_R_entriesFor_48 rfl (lv_at hl 1 rfl) ?_
    refine va_get (D := D) (ci := 2) (v := .ref h_p0_d) (C := R_R) (T := F_R) (N := 12) hx hb ht in_R hown hK hP 0 rfl rfl 1 (by decide) (ht _ f_R_13) (fun _ h9 => h9) rfl d_R_entriesFor_49 ?_
    refine lv_iload hx hb d_R_entriesFor_52 (lv_at hl 6 rfl) ?_
    refine lv_iconst (v := (nI 2)) hx hb d_R_entriesFor_54 (by decide) ?_
    obtain ⟨r55, h55, h⟩ := bd_some h
    refine wk_Si (As := [.int x5, .int (nI 2)]) (rest := [.ref h_p0_d]) (wc := []) (w1 := []) (wr := [(h_p0, .inr (2, [.ref h_p0_m, .ref h_p0_d, .ref h_p0_fresh, .ref h_p0_young, .ref h_p0_dropped, .ref h_p0_released, .ref h_p0_owed, .ref h_p0_counted, .ref h_p0_inMemory, .ref h_p0_onDisk, .ref h_p0_thn, .int moved])), (h_p0_m, .inl (cI, 1080, .inl mem)), (h_p0_d, .inl (cI, 1080, .inl dsk)), (h_p0_fresh, .inl (cZ, 36, .inl fresh)), (h_p0_young, .inl (cZ, 288, .inl young)), (h_p0_dropped, .inl (cI, 36, .inl dropped)), (h_p0_released, .inl (cZ, 18, .inl released)), (h_p0_owed, .inl (cI, 18, .inl owed)), (h_p0_counted, .inl (cI, 18, .inl counted)), (h_p0_inMemory, .inl (cZ, 18, .inl inMemory)), (h_p0_onDisk, .inl (cZ, 18, .inl onDisk)), (h_p0_thn, .inl (cZ, 18, .inl thn))]) (wz := (w_R cI cZ h_p0 h_p0_m h_p0_d h_p0_fresh h_p0_young h_p0_dropped h_p0_released h_p0_owed h_p0_counted h_p0_inMemory h_p0_onDisk h_p0_thn mem dsk fresh young dropped released owed counted inMemory onDisk thn moved)) cf hK hN hA (c_R_at l D cI cZ 0 x5 (nI 2) r55 h55) k_R_44 ⟨rfl, rfl, by decide, by decide⟩ hl hP hD hS [] [0, 1, 2, 3, 4, 5, 6, 7, 8, 9, 10, 11] [0, 1, 2, 3, 4, 5, 6, 7, 8, 9, 10, 11] rfl rfl rfl (by decide) rfl rfl rfl rfl rfl (Nat.le_of_ble_eq_true rfl) rfl d_R_entriesFor_55 (fun H locs hP hD hS => ?_)
    obtain ⟨hin, h⟩ := gr_some h
    refine va_iald hx hb hK hP 2 0 rfl rfl hin d_R_entriesFor_58 ?_
    generalize dsk r55.toNatClampNeg = v58 at h ⊢
    refine lv_goto hx hb d_R_entriesFor_59 rfl ?_
    exact w_R_entriesFor_inMemory_73 h_p0 h_p0_m h_p0_d h_p0_fresh h_p0_young h_p0_dropped h_p0_released h_p0_owed h_p0_counted h_p0_inMemory h_p0_onDisk h_p0_thn F mem dsk fresh young dropped released owed counted inMemory onDisk thn moved r _ ⟨cf, hr, hlk, hK, hN, hA⟩ h6 x1 x3 x4 x5 t0 v58 h H locs ls (lv_sub hl [1, 2, 3, 4, 5, 6, 0] rfl) hP hD hS
set_option maxHeartbeats 4000000 in
set_option maxRecDepth 100000 in
theorem w_R_entriesFor_inMemory_6 {p : Program} {l : Launch} {e : Env} {s : State} {m : MethodId} {args : Array Value} {below : List Frame} {meth : Method} {c : Code} {D : va_G} {cI cZ : ClassId} {A : Nat → Prop} (h_p0 h_p0_m h_p0_d h_p0_fresh h_p0_young h_p0_dropped h_p0_released h_p0_owed h_p0_counted h_p0_inMemory h_p0_onDisk h_p0_thn : Nat) (F : Nat) (mem : (Nat → Int32)) (dsk : (Nat → Int32)) (fresh : (Nat → Int32)) (young : (Nat → Int32)) (dropped : (Nat → Int32)) (released : (Nat → Int32)) (owed : (Nat → Int32)) (counted : (Nat → Int32)) (inMemory : (Nat → Int32)) (onDisk : (Nat → Int32)) (thn : (Nat → Int32)) (moved : Int32) (r : Int32) (cx : cx_ok p s m args meth c b_R_entriesFor 10 o_R_entriesFor "OrderedVolumeModel" (some .int) D cI cZ A) : ∀ (n : Nat) (x1 : Int32) (x3 : Int32) (x4 : Int32) (x5 : Int32), s_R_entriesFor_inMemory_6 F mem dsk fresh inMemory n x1 x3 x4 x5 = some r → wk_G p l e rm_R_entriesFor s m args below meth c (sc_Qi below args s D cI cZ A (w_R cI cZ h_p0 h_p0_m h_p0_d h_p0_fresh h_p0_young h_p0_dropped h_p0_released h_p0_owed h_p0_counted h_p0_inMemory h_p0_onDisk h_p0_thn mem dsk fresh young dropped released owed counted inMemory onDisk thn moved) r) D A 10 6 [] [(0, .ref h_p0), (2, .ref h_p0_inMemory), (1, .int x1), (3, .int x3), (4, .int x4), (5, .int x5)] (w_R cI cZ h_p0 h_p0_m h_p0_d h_p0_fresh h_p0_young h_p0_dropped h_p0_released h_p0_owed h_p0_counted h_p0_inMemory h_p0_onDisk h_p0_thn mem dsk fresh young dropped released owed counted inMemory onDisk thn moved) := by
  obtain ⟨cf, hr, hlk, hK, hN, hA⟩ := cx
  have hx := cf.1
  have hb := cf.2.1
  have hown := cf.2.2.2.1
  have ht : ∀ w ∈ wA, w.before args s = true := fun w h => cf.2.2.2.2 w (List.mem_cons_of_mem _ h)
  intro n
  induction n with
  | zero => intro x1 x3 x4 x5 h; cases (show (none : Option (Int32)) = some _ from h)
  | succ n ih =>
    intro x1 x3 x4 x5 h H locs ls hl hP hD hS
    unfold s_R_entriesFor_inMemory_6 at h
    refine lv_iload hx hb d_R_entriesFor_6 (lv_at hl 5 rfl) ?_
    refine lv_bipush (v := (nI 18)) hx hb d_R_entriesFor_8 (by decide) ?_
    refine lv_icmp_ge hx hb d_R_entriesFor_10 rfl (fun hc => ?_) (fun hc => ?_)
    · rw [if_pos hc] at h
      refine lv_iload hx hb d_R_entriesFor_170 (lv_at hl 4 rfl) ?_
      cases h
      exact sc_iret cf hr hlk hK hP hD hS d_R_entriesFor_172
    · rw [if_neg hc] at h
      refine lv_iload_n hx hb d_R_entriesFor_13 rfl (lv_at hl 2 rfl) ?_
      refine lv_if_eq hx hb d_R_entriesFor_14 rfl (fun hc => ?_) (fun hc => ?_)
      · rw [if_pos hc] at h
        refine lv_aload_n hx hb d_R_entriesFor_31 rfl (lv_at hl 0 rfl) ?_
        refine va_get (D := D) (ci := 2) (v := .ref h_p0_m) (C := R_R) (T := F_R) (N := 12) hx hb ht in_R hown hK hP 0 rfl rfl 0 (by decide) (ht _ f_R_7) (fun _ h9 => h9) rfl d_R_entriesFor_32 ?_
        refine lv_iload hx hb d_R_entriesFor_35 (lv_at hl 5 rfl) ?_
        refine lv_iconst (v := (nI 0)) hx hb d_R_entriesFor_37 (by decide) ?_
        obtain ⟨r38, h38, h⟩ := bd_some h
        refine wk_Si (As := [.int x5, .int (nI 0)]) (rest := [.ref h_p0_m]) (wc := []) (w1 := []) (wr := [(h_p0, .inr (2, [.ref h_p0_m, .ref h_p0_d, .ref h_p0_fresh, .ref h_p0_young, .ref h_p0_dropped, .ref h_p0_released, .ref h_p0_owed, .ref h_p0_counted, .ref h_p0_inMemory, .ref h_p0_onDisk, .ref h_p0_thn, .int moved])), (h_p0_m, .inl (cI, 1080, .inl mem)), (h_p0_d, .inl (cI, 1080, .inl dsk)), (h_p0_fresh, .inl (cZ, 36, .inl fresh)), (h_p0_young, .inl (cZ, 288, .inl young)), (h_p0_dropped, .inl (cI, 36, .inl dropped)), (h_p0_released, .inl (cZ, 18, .inl released)), (h_p0_owed, .inl (cI, 18, .inl owed)), (h_p0_counted, .inl (cI, 18, .inl counted)), (h_p0_inMemory, .inl (cZ, 18, .inl inMemory)), (h_p0_onDisk, .inl (cZ, 18, .inl onDisk)), (h_p0_thn, .inl (cZ, 18, .inl thn))]) (wz := (w_R cI cZ h_p0 h_p0_m h_p0_d h_p0_fresh h_p0_young h_p0_dropped h_p0_released h_p0_owed h_p0_counted h_p0_inMemory h_p0_onDisk h_p0_thn mem dsk fresh young dropped released owed counted inMemory onDisk thn moved)) cf hK hN hA (c_R_at l D cI cZ 0 x5 (nI 0) r38 h38) k_R_44 ⟨rfl, rfl, by decide, by decide⟩ hl hP hD hS [] [0, 1, 2, 3, 4, 5, 6, 7, 8, 9, 10, 11] [0, 1, 2, 3, 4, 5, 6, 7, 8, 9, 10, 11] rfl rfl rfl (by decide) rfl rfl rfl rfl rfl (Nat.le_of_ble_eq_true rfl) rfl d_R_entriesFor_38 (fun H locs hP hD hS => ?_)
        obtain ⟨hin, h⟩ := gr_some h
        refine va_iald hx hb hK hP 1 0 rfl rfl hin d_R_entriesFor_41 ?_
        generalize mem r38.toNatClampNeg = v41 at h ⊢
        exact w_R_entriesFor_inMemory_42 h_p0 h_p0_m h_p0_d h_p0_fresh h_p0_young h_p0_dropped h_p0_released h_p0_owed h_p0_counted h_p0_inMemory h_p0_onDisk h_p0_thn F mem dsk fresh young dropped released owed counted inMemory onDisk thn moved r _ ⟨cf, hr, hlk, hK, hN, hA⟩ ih x1 x3 x4 x5 v41 h H locs ls (lv_sub hl [0, 1, 2, 3, 4, 5] rfl) hP hD hS
      · rw [if_neg hc] at h
        refine lv_aload_n hx hb d_R_entriesFor_17 rfl (lv_at hl 0 rfl) ?_
        refine va_get (D := D) (ci := 2) (v := .ref h_p0_d) (C := R_R) (T := F_R) (N := 12) hx hb ht in_R hown hK hP 0 rfl rfl 1 (by decide) (ht _ f_R_13) (fun _ h9 => h9) rfl d_R_entriesFor_18 ?_
        refine lv_iload hx hb d_R_entriesFor_21 (lv_at hl 5 rfl) ?_
        refine lv_iconst (v := (nI 0)) hx hb d_R_entriesFor_23 (by decide) ?_
        obtain ⟨r24, h24, h⟩ := bd_some h
        refine wk_Si (As := [.int x5, .int (nI 0)]) (rest := [.ref h_p0_d]) (wc := []) (w1 := []) (wr := [(h_p0, .inr (2, [.ref h_p0_m, .ref h_p0_d, .ref h_p0_fresh, .ref h_p0_young, .ref h_p0_dropped, .ref h_p0_released, .ref h_p0_owed, .ref h_p0_counted, .ref h_p0_inMemory, .ref h_p0_onDisk, .ref h_p0_thn, .int moved])), (h_p0_m, .inl (cI, 1080, .inl mem)), (h_p0_d, .inl (cI, 1080, .inl dsk)), (h_p0_fresh, .inl (cZ, 36, .inl fresh)), (h_p0_young, .inl (cZ, 288, .inl young)), (h_p0_dropped, .inl (cI, 36, .inl dropped)), (h_p0_released, .inl (cZ, 18, .inl released)), (h_p0_owed, .inl (cI, 18, .inl owed)), (h_p0_counted, .inl (cI, 18, .inl counted)), (h_p0_inMemory, .inl (cZ, 18, .inl inMemory)), (h_p0_onDisk, .inl (cZ, 18, .inl onDisk)), (h_p0_thn, .inl (cZ, 18, .inl thn))]) (wz := (w_R cI cZ h_p0 h_p0_m h_p0_d h_p0_fresh h_p0_young h_p0_dropped h_p0_released h_p0_owed h_p0_counted h_p0_inMemory h_p0_onDisk h_p0_thn mem dsk fresh young dropped released owed counted inMemory onDisk thn moved)) cf hK hN hA (c_R_at l D cI cZ 0 x5 (nI 0) r24 h24) k_R_44 ⟨rfl, rfl, by decide, by decide⟩ hl hP hD hS [] [0, 1, 2, 3, 4, 5, 6, 7, 8, 9, 10, 11] [0, 1, 2, 3, 4, 5, 6, 7, 8, 9, 10, 11] rfl rfl rfl (by decide) rfl rfl rfl rfl rfl (Nat.le_of_ble_eq_true rfl) rfl d_R_entriesFor_24 (fun H locs hP hD hS => ?_)
        obtain ⟨hin, h⟩ := gr_some h
        refine va_iald hx hb hK hP 2 0 rfl rfl hin d_R_entriesFor_27 ?_
        generalize dsk r24.toNatClampNeg = v27 at h ⊢
        refine lv_goto hx hb d_R_entriesFor_28 rfl ?_
        exact w_R_entriesFor_inMemory_42 h_p0 h_p0_m h_p0_d h_p0_fresh h_p0_young h_p0_dropped h_p0_released h_p0_owed h_p0_counted h_p0_inMemory h_p0_onDisk h_p0_thn F mem dsk fresh young dropped released owed counted inMemory onDisk thn moved r _ ⟨cf, hr, hlk, hK, hN, hA⟩ ih x1 x3 x4 x5 v27 h H locs ls (lv_sub hl [0, 1, 2, 3, 4, 5] rfl) hP hD hS
set_option maxHeartbeats 4000000 in
set_option maxRecDepth 100000 in
theorem c_R_entriesFor_inMemory (l : Launch) (D : va_G) (cI cZ : ClassId) (h_p0 h_p0_m h_p0_d h_p0_fresh h_p0_young h_p0_dropped h_p0_released h_p0_owed h_p0_counted h_p0_inMemory h_p0_onDisk h_p0_thn : Nat) (F : Nat) (mem : (Nat → Int32)) (dsk : (Nat → Int32)) (fresh : (Nat → Int32)) (young : (Nat → Int32)) (dropped : (Nat → Int32)) (released : (Nat → Int32)) (owed : (Nat → Int32)) (counted : (Nat → Int32)) (inMemory : (Nat → Int32)) (onDisk : (Nat → Int32)) (thn : (Nat → Int32)) (moved : Int32) (x1 : Int32) (x3 : Int32) (r : Int32) (h : s_R_entriesFor_inMemory F mem dsk fresh inMemory x1 x3 = some r) : sc_i l y_R_entriesFor (o_R_entriesFor :: wA) rm_R_entriesFor D cI cZ [.ref h_p0, .int x1, .ref h_p0_inMemory, .int x3] (w_R cI cZ h_p0 h_p0_m h_p0_d h_p0_fresh h_p0_young h_p0_dropped h_p0_released h_p0_owed h_p0_counted h_p0_inMemory h_p0_onDisk h_p0_thn mem dsk fresh young dropped released owed counted inMemory onDisk thn moved) (w_R cI cZ h_p0 h_p0_m h_p0_d h_p0_fresh h_p0_young h_p0_dropped h_p0_released h_p0_owed h_p0_counted h_p0_inMemory h_p0_onDisk h_p0_thn mem dsk fresh young dropped released owed counted inMemory onDisk thn moved) r := by
  refine sc_i_of (cc := b_R_entriesFor) (maxL := 10) (ret := (some .int)) (by decide) rfl (Nat.le_of_ble_eq_true rfl) ?_
  intro p e s m below meth c A cf hr hlk hK hN hA H locs ls hl hP hD hS
  have hx := cf.1
  have hb := cf.2.1
  have hown := cf.2.2.2.1
  have ht : ∀ w ∈ wA, w.before _ s = true := fun w h => cf.2.2.2.2 w (List.mem_cons_of_mem _ h)
  unfold s_R_entriesFor_inMemory at h
  have hl : lv_has ls 10 [(0, .ref h_p0), (1, .int x1), (2, .ref h_p0_inMemory), (3, .int x3)] := hl
  refine lv_iconst (v := (nI 0)) hx hb d_R_entriesFor_0 (by decide) ?_
  refine lv_istore (lv' := [(4, .int (nI 0)), (0, .ref h_p0), (1, .int x1), (2, .ref h_p0_inMemory), (3, .int x3)]) hx hb d_R_entriesFor_1 hl (by decide) rfl (fun ls hl => ?_)
  refine lv_iconst (v := (nI 0)) hx hb d_R_entriesFor_3 (by decide) ?_
  refine lv_istore (lv' := [(5, .int (nI 0)), (4, .int (nI 0)), (0, .ref h_p0), (1, .int x1), (2, .ref h_p0_inMemory), (3, .int x3)]) hx hb d_R_entriesFor_4 hl (by decide) rfl (fun ls hl => ?_)
  exact w_R_entriesFor_inMemory_6 h_p0 h_p0_m h_p0_d h_p0_fresh h_p0_young h_p0_dropped h_p0_released h_p0_owed h_p0_counted h_p0_inMemory h_p0_onDisk h_p0_thn F mem dsk fresh young dropped released owed counted inMemory onDisk thn moved r ⟨cf, hr, hlk, hK, hN, hA⟩ F x1 x3 (nI 0) (nI 0) h H locs ls (lv_sub hl [2, 4, 3, 5, 1, 0] rfl) hP hD hS
set_option maxHeartbeats 4000000 in
set_option maxRecDepth 100000 in
theorem w_R_pointersTo_inMemory_60 {p : Program} {l : Launch} {e : Env} {s : State} {m : MethodId} {args : Array Value} {below : List Frame} {meth : Method} {c : Code} {D : va_G} {cI cZ : ClassId} {A : Nat → Prop} (h_p0 h_p0_m h_p0_d h_p0_fresh h_p0_young h_p0_dropped h_p0_released h_p0_owed h_p0_counted h_p0_inMemory h_p0_onDisk h_p0_thn : Nat) (F : Nat) (mem : (Nat → Int32)) (dsk : (Nat → Int32)) (fresh : (Nat → Int32)) (young : (Nat → Int32)) (dropped : (Nat → Int32)) (released : (Nat → Int32)) (owed : (Nat → Int32)) (counted : (Nat → Int32)) (inMemory : (Nat → Int32)) (onDisk : (Nat → Int32)) (thn : (Nat → Int32)) (moved : Int32) (r : Int32) (k6 : Int32 → Int32 → Int32 → Int32 → Option (Int32)) (k16 : Int32 → Int32 → Int32 → Int32 → Int32 → Option (Int32)) (cx : cx_ok p s m args meth c b_R_pointersTo 8 o_R_pointersTo "OrderedVolumeModel" (some .int) D cI cZ A) (h6 : (∀ (x1 : Int32) (x3 : Int32) (x4 : Int32) (x5 : Int32), k6 x1 x3 x4 x5 = some r → wk_G p l e rm_R_pointersTo s m args below meth c (sc_Qi below args s D cI cZ A (w_R cI cZ h_p0 h_p0_m h_p0_d h_p0_fresh h_p0_young h_p0_dropped h_p0_released h_p0_owed h_p0_counted h_p0_inMemory h_p0_onDisk h_p0_thn mem dsk fresh young dropped released owed counted inMemory onDisk thn moved) r) D A 8 6 [] [(0, .ref h_p0), (2, .ref h_p0_inMemory), (1, .int x1), (3, .int x3), (4, .int x4), (5, .int x5)] (w_R cI cZ h_p0 h_p0_m h_p0_d h_p0_fresh h_p0_young h_p0_dropped h_p0_released h_p0_owed h_p0_counted h_p0_inMemory h_p0_onDisk h_p0_thn mem dsk fresh young dropped released owed counted inMemory onDisk thn moved))) (h16 : (∀ (x1 : Int32) (x3 : Int32) (x4 : Int32) (x5 : Int32) (x6 : Int32), k16 x1 x3 x4 x5 x6 = some r → wk_G p l e rm_R_pointersTo s m args below meth c (sc_Qi below args s D cI cZ A (w_R cI cZ h_p0 h_p0_m h_p0_d h_p0_fresh h_p0_young h_p0_dropped h_p0_released h_p0_owed h_p0_counted h_p0_inMemory h_p0_onDisk h_p0_thn mem dsk fresh young dropped released owed counted inMemory onDisk thn moved) r) D A 8 16 [] [(0, .ref h_p0), (2, .ref h_p0_inMemory), (1, .int x1), (3, .int x3), (4, .int x4), (5, .int x5), (6, .int x6)] (w_R cI cZ h_p0 h_p0_m h_p0_d h_p0_fresh h_p0_young h_p0_dropped h_p0_released h_p0_owed h_p0_counted h_p0_inMemory h_p0_onDisk h_p0_thn mem dsk fresh young dropped released owed counted inMemory onDisk thn moved))) : ∀ (x1 : Int32) (x3 : Int32) (x4 : Int32) (x5 : Int32) (x6 : Int32) (t0 : Int32), s_R_pointersTo_inMemory_60 F mem dsk inMemory k6 k16 x1 x3 x4 x5 x6 t0 = some r → wk_G p l e rm_R_pointersTo s m args below meth c (sc_Qi below args s D cI cZ A (w_R cI cZ h_p0 h_p0_m h_p0_d h_p0_fresh h_p0_young h_p0_dropped h_p0_released h_p0_owed h_p0_counted h_p0_inMemory h_p0_onDisk h_p0_thn mem dsk fresh young dropped released owed counted inMemory onDisk thn moved) r) D A 8 60 [.int t0] [(0, .ref h_p0), (2, .ref h_p0_inMemory), (1, .int x1), (3, .int x3), (4, .int x4), (5, .int x5), (6, .int x6)] (w_R cI cZ h_p0 h_p0_m h_p0_d h_p0_fresh h_p0_young h_p0_dropped h_p0_released h_p0_owed h_p0_counted h_p0_inMemory h_p0_onDisk h_p0_thn mem dsk fresh young dropped released owed counted inMemory onDisk thn moved) := by
  obtain ⟨cf, hr, hlk, hK, hN, hA⟩ := cx
  have hx := cf.1
  have hb := cf.2.1
  have hown := cf.2.2.2.1
  have ht : ∀ w ∈ wA, w.before args s = true := fun w h => cf.2.2.2.2 w (List.mem_cons_of_mem _ h)
  intro x1 x3 x4 x5 x6 t0 h H locs ls hl hP hD hS
  unfold s_R_pointersTo_inMemory_60 at h
  refine lv_istore (lv' := [(7, .int t0), (0, .ref h_p0), (2, .ref h_p0_inMemory), (1, .int x1), (3, .int x3), (4, .int x4), (5, .int x5), (6, .int x6)]) hx hb d_R_pointersTo_60 hl (by decide) rfl (fun ls hl => ?_)
  refine lv_iload hx hb d_R_pointersTo_62 (lv_at hl 0 rfl) ?_
  refine lv_iload_n hx hb d_R_pointersTo_64 rfl (lv_at hl 4 rfl) ?_
  refine lv_icmp_ne hx hb d_R_pointersTo_65 rfl (fun hc => ?_) (fun hc => ?_)
  · rw [if_neg hc] at h
    refine lv_iload hx hb d_R_pointersTo_75 (lv_at hl 5 rfl) ?_
    refine lv_istore (lv' := [(4, .int x4), (7, .int t0), (0, .ref h_p0), (2, .ref h_p0_inMemory), (1, .int x1), (3, .int x3), (5, .int x5), (6, .int x6)]) hx hb d_R_pointersTo_77 hl (by decide) rfl (fun ls hl => ?_)
    refine lv_iinc (k := 7) (v := (x6 + (nI 1))) (lv' := [(6, .int (x6 + (nI 1))), (4, .int x4), (7, .int t0), (0, .ref h_p0), (2, .ref h_p0_inMemory), (1, .int x1), (3, .int x3), (5, .int x5)]) hx hb d_R_pointersTo_79 hl rfl rfl (by decide) rfl (fun ls hl => ?_)
    refine lv_goto hx hb d_R_pointersTo_82 rfl ?_
    exact h16 x1 x3 x4 x5 (x6 + (nI 1)) h H locs ls (lv_sub hl [3, 4, 5, 6, 1, 7, 0] rfl) hP hD hS
  · rw [if_pos hc] at h
    refine lv_iload hx hb d_R_pointersTo_68 (lv_at hl 5 rfl) ?_
    refine lv_iconst (v := (nI 1)) hx hb d_R_pointersTo_70 (by decide) ?_
    refine lv_iadd hx hb d_R_pointersTo_71 ?_
    refine lv_goto hx hb d_R_pointersTo_72 rfl ?_
    refine lv_istore (lv' := [(4, .int (x4 + (nI 1))), (7, .int t0), (0, .ref h_p0), (2, .ref h_p0_inMemory), (1, .int x1), (3, .int x3), (5, .int x5), (6, .int x6)]) hx hb d_R_pointersTo_77 hl (by decide) rfl (fun ls hl => ?_)
    refine lv_iinc (k := 7) (v := (x6 + (nI 1))) (lv' := [(6, .int (x6 + (nI 1))), (4, .int (x4 + (nI 1))), (7, .int t0), (0, .ref h_p0), (2, .ref h_p0_inMemory), (1, .int x1), (3, .int x3), (5, .int x5)]) hx hb d_R_pointersTo_79 hl rfl rfl (by decide) rfl (fun ls hl => ?_)
    refine lv_goto hx hb d_R_pointersTo_82 rfl ?_
    exact h16 x1 x3 (x4 + (nI 1)) x5 (x6 + (nI 1)) h H locs ls (lv_sub hl [3, 4, 5, 6, 1, 7, 0] rfl) hP hD hS
