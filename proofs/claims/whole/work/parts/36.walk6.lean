set_option maxHeartbeats 4000000 in
set_option maxRecDepth 100000 in
theorem c_R_place (l : Launch) (D : va_G) (cI cZ : ClassId) (h_p0 h_p0_m h_p0_d h_p0_fresh h_p0_young h_p0_dropped h_p0_released h_p0_owed h_p0_counted h_p0_inMemory h_p0_onDisk h_p0_thn : Nat) (F : Nat) (mem : (Nat → Int32)) (dsk : (Nat → Int32)) (fresh : (Nat → Int32)) (young : (Nat → Int32)) (dropped : (Nat → Int32)) (released : (Nat → Int32)) (owed : (Nat → Int32)) (counted : (Nat → Int32)) (inMemory : (Nat → Int32)) (onDisk : (Nat → Int32)) (thn : (Nat → Int32)) (moved : Int32) (x1 : Int32) (r : Int32) (h : s_R_place F mem dsk fresh x1 = some r) : sc_i l y_R_place (o_R_place :: wA) rm_R_place D cI cZ [.ref h_p0, .int x1] (w_R cI cZ h_p0 h_p0_m h_p0_d h_p0_fresh h_p0_young h_p0_dropped h_p0_released h_p0_owed h_p0_counted h_p0_inMemory h_p0_onDisk h_p0_thn mem dsk fresh young dropped released owed counted inMemory onDisk thn moved) (w_R cI cZ h_p0 h_p0_m h_p0_d h_p0_fresh h_p0_young h_p0_dropped h_p0_released h_p0_owed h_p0_counted h_p0_inMemory h_p0_onDisk h_p0_thn mem dsk fresh young dropped released owed counted inMemory onDisk thn moved) r := by
  refine sc_i_of (cc := b_R_place) (maxL := 4) (ret := (some .int)) (by decide) rfl (Nat.le_of_ble_eq_true rfl) ?_
  intro p e s m below meth c A cf hr hlk hK hN hA H locs ls hl hP hD hS
  have hx := cf.1
  have hb := cf.2.1
  have hown := cf.2.2.2.1
  have ht : ∀ w ∈ wA, w.before _ s = true := fun w h => cf.2.2.2.2 w (List.mem_cons_of_mem _ h)
  unfold s_R_place at h
  have hl : lv_has ls 4 [(0, .ref h_p0), (1, .int x1)] := hl
  refine lv_aload_n hx hb d_R_place_0 rfl (lv_at hl 0 rfl) ?_
  refine va_get (D := D) (ci := 2) (v := .ref h_p0_m) (C := R_R) (T := F_R) (N := 12) hx hb ht in_R hown hK hP 0 rfl rfl 0 (by decide) (ht _ f_R_7) (fun _ h9 => h9) rfl d_R_place_1 ?_
  refine lv_iload_n hx hb d_R_place_4 rfl (lv_at hl 1 rfl) ?_
  refine lv_iconst (v := (nI 2)) hx hb d_R_place_5 (by decide) ?_
  obtain ⟨r6, h6, h⟩ := bd_some h
  refine wk_Si (As := [.int x1, .int (nI 2)]) (rest := [.ref h_p0_m]) (wc := []) (w1 := []) (wr := [(h_p0, .inr (2, [.ref h_p0_m, .ref h_p0_d, .ref h_p0_fresh, .ref h_p0_young, .ref h_p0_dropped, .ref h_p0_released, .ref h_p0_owed, .ref h_p0_counted, .ref h_p0_inMemory, .ref h_p0_onDisk, .ref h_p0_thn, .int moved])), (h_p0_m, .inl (cI, 1080, .inl mem)), (h_p0_d, .inl (cI, 1080, .inl dsk)), (h_p0_fresh, .inl (cZ, 36, .inl fresh)), (h_p0_young, .inl (cZ, 288, .inl young)), (h_p0_dropped, .inl (cI, 36, .inl dropped)), (h_p0_released, .inl (cZ, 18, .inl released)), (h_p0_owed, .inl (cI, 18, .inl owed)), (h_p0_counted, .inl (cI, 18, .inl counted)), (h_p0_inMemory, .inl (cZ, 18, .inl inMemory)), (h_p0_onDisk, .inl (cZ, 18, .inl onDisk)), (h_p0_thn, .inl (cZ, 18, .inl thn))]) (wz := (w_R cI cZ h_p0 h_p0_m h_p0_d h_p0_fresh h_p0_young h_p0_dropped h_p0_released h_p0_owed h_p0_counted h_p0_inMemory h_p0_onDisk h_p0_thn mem dsk fresh young dropped released owed counted inMemory onDisk thn moved)) cf hK hN hA (c_R_at l D cI cZ 0 x1 (nI 2) r6 h6) k_R_44 ⟨rfl, rfl, by decide, by decide⟩ hl hP hD hS [] [0, 1, 2, 3, 4, 5, 6, 7, 8, 9, 10, 11] [0, 1, 2, 3, 4, 5, 6, 7, 8, 9, 10, 11] rfl rfl rfl (by decide) rfl rfl rfl rfl rfl (Nat.le_of_ble_eq_true rfl) rfl d_R_place_6 (fun H locs hP hD hS => ?_)
  obtain ⟨hin, h⟩ := gr_some h
  refine va_iald hx hb hK hP 1 0 rfl rfl hin d_R_place_9 ?_
  generalize mem r6.toNatClampNeg = v9 at h ⊢
  refine lv_istore_n (lv' := [(2, .int v9), (0, .ref h_p0), (1, .int x1)]) hx hb d_R_place_10 rfl hl (by decide) rfl (fun ls hl => ?_)
  refine lv_iconst (v := (nI 0)) hx hb d_R_place_11 (by decide) ?_
  refine lv_istore_n (lv' := [(3, .int (nI 0)), (2, .int v9), (0, .ref h_p0), (1, .int x1)]) hx hb d_R_place_12 rfl hl (by decide) rfl (fun ls hl => ?_)
  exact w_R_place_13 h_p0 h_p0_m h_p0_d h_p0_fresh h_p0_young h_p0_dropped h_p0_released h_p0_owed h_p0_counted h_p0_inMemory h_p0_onDisk h_p0_thn F mem dsk fresh young dropped released owed counted inMemory onDisk thn moved r ⟨cf, hr, hlk, hK, hN, hA⟩ F v9 (nI 0) h H locs ls (lv_sub hl [2, 1, 0] rfl) hP hD hS
set_option maxHeartbeats 4000000 in
set_option maxRecDepth 100000 in
theorem w_R_room_38 {p : Program} {l : Launch} {e : Env} {s : State} {m : MethodId} {args : Array Value} {below : List Frame} {meth : Method} {c : Code} {D : va_G} {cI cZ : ClassId} {A : Nat → Prop} (h_p0 h_p0_m h_p0_d h_p0_fresh h_p0_young h_p0_dropped h_p0_released h_p0_owed h_p0_counted h_p0_inMemory h_p0_onDisk h_p0_thn : Nat) (F : Nat) (mem : (Nat → Int32)) (dsk : (Nat → Int32)) (fresh : (Nat → Int32)) (young : (Nat → Int32)) (dropped : (Nat → Int32)) (released : (Nat → Int32)) (owed : (Nat → Int32)) (counted : (Nat → Int32)) (inMemory : (Nat → Int32)) (onDisk : (Nat → Int32)) (thn : (Nat → Int32)) (moved : Int32) (r : Int32) (cx : cx_ok p s m args meth c b_R_room 4 o_R_room "OrderedVolumeModel" (some .boolean) D cI cZ A) : s_R_room_38 F mem dsk fresh = some r → wk_G p l e rm_R_room s m args below meth c (sc_Qi below args s D cI cZ A (w_R cI cZ h_p0 h_p0_m h_p0_d h_p0_fresh h_p0_young h_p0_dropped h_p0_released h_p0_owed h_p0_counted h_p0_inMemory h_p0_onDisk h_p0_thn mem dsk fresh young dropped released owed counted inMemory onDisk thn moved) r) D A 4 38 [] [(0, .ref h_p0)] (w_R cI cZ h_p0 h_p0_m h_p0_d h_p0_fresh h_p0_young h_p0_dropped h_p0_released h_p0_owed h_p0_counted h_p0_inMemory h_p0_onDisk h_p0_thn mem dsk fresh young dropped released owed counted inMemory onDisk thn moved) := by
  obtain ⟨cf, hr, hlk, hK, hN, hA⟩ := cx
  have hx := cf.1
  have hb := cf.2.1
  have hown := cf.2.2.2.1
  have ht : ∀ w ∈ wA, w.before args s = true := fun w h => cf.2.2.2.2 w (List.mem_cons_of_mem _ h)
  intro  h H locs ls hl hP hD hS
  unfold s_R_room_38 at h
  refine lv_iconst (v := (nI 0)) hx hb d_R_room_38 (by decide) ?_
  have hz : ((nI 0) : Int32) = 0 ∨ ((nI 0) : Int32) = 1 := by decide
  cases h
  exact sc_zret cf hr hlk hz hK hP hD hS d_R_room_39
set_option maxHeartbeats 4000000 in
set_option maxRecDepth 100000 in
theorem w_R_room_34 {p : Program} {l : Launch} {e : Env} {s : State} {m : MethodId} {args : Array Value} {below : List Frame} {meth : Method} {c : Code} {D : va_G} {cI cZ : ClassId} {A : Nat → Prop} (h_p0 h_p0_m h_p0_d h_p0_fresh h_p0_young h_p0_dropped h_p0_released h_p0_owed h_p0_counted h_p0_inMemory h_p0_onDisk h_p0_thn : Nat) (F : Nat) (mem : (Nat → Int32)) (dsk : (Nat → Int32)) (fresh : (Nat → Int32)) (young : (Nat → Int32)) (dropped : (Nat → Int32)) (released : (Nat → Int32)) (owed : (Nat → Int32)) (counted : (Nat → Int32)) (inMemory : (Nat → Int32)) (onDisk : (Nat → Int32)) (thn : (Nat → Int32)) (moved : Int32) (r : Int32) (cx : cx_ok p s m args meth c b_R_room 4 o_R_room "OrderedVolumeModel" (some .boolean) D cI cZ A) : s_R_room_34 F mem dsk fresh = some r → wk_G p l e rm_R_room s m args below meth c (sc_Qi below args s D cI cZ A (w_R cI cZ h_p0 h_p0_m h_p0_d h_p0_fresh h_p0_young h_p0_dropped h_p0_released h_p0_owed h_p0_counted h_p0_inMemory h_p0_onDisk h_p0_thn mem dsk fresh young dropped released owed counted inMemory onDisk thn moved) r) D A 4 34 [] [(0, .ref h_p0)] (w_R cI cZ h_p0 h_p0_m h_p0_d h_p0_fresh h_p0_young h_p0_dropped h_p0_released h_p0_owed h_p0_counted h_p0_inMemory h_p0_onDisk h_p0_thn mem dsk fresh young dropped released owed counted inMemory onDisk thn moved) := by
  obtain ⟨cf, hr, hlk, hK, hN, hA⟩ := cx
  have hx := cf.1
  have hb := cf.2.1
  have hown := cf.2.2.2.1
  have ht : ∀ w ∈ wA, w.before args s = true := fun w h => cf.2.2.2.2 w (List.mem_cons_of_mem _ h)
  intro  h H locs ls hl hP hD hS
  unfold s_R_room_34 at h
  refine lv_iconst (v := (nI 1)) hx hb d_R_room_34 (by decide) ?_
  refine lv_goto hx hb d_R_room_35 rfl ?_
  have hz : ((nI 1) : Int32) = 0 ∨ ((nI 1) : Int32) = 1 := by decide
  cases h
  exact sc_zret cf hr hlk hz hK hP hD hS d_R_room_39
set_option maxHeartbeats 4000000 in
set_option maxRecDepth 100000 in
theorem c_R_room (l : Launch) (D : va_G) (cI cZ : ClassId) (h_p0 h_p0_m h_p0_d h_p0_fresh h_p0_young h_p0_dropped h_p0_released h_p0_owed h_p0_counted h_p0_inMemory h_p0_onDisk h_p0_thn : Nat) (F : Nat) (mem : (Nat → Int32)) (dsk : (Nat → Int32)) (fresh : (Nat → Int32)) (young : (Nat → Int32)) (dropped : (Nat → Int32)) (released : (Nat → Int32)) (owed : (Nat → Int32)) (counted : (Nat → Int32)) (inMemory : (Nat → Int32)) (onDisk : (Nat → Int32)) (thn : (Nat → Int32)) (moved : Int32) (x1 : Int32) (x2 : Int32) (r : Int32) (h : s_R_room F mem dsk fresh x1 x2 = some r) : sc_i l y_R_room (o_R_room :: wA) rm_R_room D cI cZ [.ref h_p0, .int x1, .int x2] (w_R cI cZ h_p0 h_p0_m h_p0_d h_p0_fresh h_p0_young h_p0_dropped h_p0_released h_p0_owed h_p0_counted h_p0_inMemory h_p0_onDisk h_p0_thn mem dsk fresh young dropped released owed counted inMemory onDisk thn moved) (w_R cI cZ h_p0 h_p0_m h_p0_d h_p0_fresh h_p0_young h_p0_dropped h_p0_released h_p0_owed h_p0_counted h_p0_inMemory h_p0_onDisk h_p0_thn mem dsk fresh young dropped released owed counted inMemory onDisk thn moved) r := by
  refine sc_i_of (cc := b_R_room) (maxL := 4) (ret := (some .boolean)) (by decide) rfl (Nat.le_of_ble_eq_true rfl) ?_
  intro p e s m below meth c A cf hr hlk hK hN hA H locs ls hl hP hD hS
  have hx := cf.1
  have hb := cf.2.1
  have hown := cf.2.2.2.1
  have ht : ∀ w ∈ wA, w.before _ s = true := fun w h => cf.2.2.2.2 w (List.mem_cons_of_mem _ h)
  unfold s_R_room at h
  have hl : lv_has ls 4 [(0, .ref h_p0), (1, .int x1), (2, .int x2)] := hl
  refine lv_aload_n hx hb d_R_room_0 rfl (lv_at hl 0 rfl) ?_
  refine lv_iload_n hx hb d_R_room_1 rfl (lv_at hl 1 rfl) ?_
  refine lv_iload_n hx hb d_R_room_2 rfl (lv_at hl 2 rfl) ?_
  obtain ⟨r3, h3, h⟩ := bd_some h
  refine wk_Vi (As := [.int x1, .int x2]) (rest := []) (wc := (w_R cI cZ h_p0 h_p0_m h_p0_d h_p0_fresh h_p0_young h_p0_dropped h_p0_released h_p0_owed h_p0_counted h_p0_inMemory h_p0_onDisk h_p0_thn mem dsk fresh young dropped released owed counted inMemory onDisk thn moved)) (w1 := (w_R cI cZ h_p0 h_p0_m h_p0_d h_p0_fresh h_p0_young h_p0_dropped h_p0_released h_p0_owed h_p0_counted h_p0_inMemory h_p0_onDisk h_p0_thn mem dsk fresh young dropped released owed counted inMemory onDisk thn moved)) (wr := []) (wz := (w_R cI cZ h_p0 h_p0_m h_p0_d h_p0_fresh h_p0_young h_p0_dropped h_p0_released h_p0_owed h_p0_counted h_p0_inMemory h_p0_onDisk h_p0_thn mem dsk fresh young dropped released owed counted inMemory onDisk thn moved)) cf hK hN hA (c_R_inodeFor l D cI cZ h_p0 h_p0_m h_p0_d h_p0_fresh h_p0_young h_p0_dropped h_p0_released h_p0_owed h_p0_counted h_p0_inMemory h_p0_onDisk h_p0_thn F mem dsk fresh young dropped released owed counted inMemory onDisk thn moved x1 x2 r3 h3) k_R_102 ⟨rfl, rfl, by decide, by decide⟩ 2 rfl rfl rfl hl hP hD hS [0, 1, 2, 3, 4, 5, 6, 7, 8, 9, 10, 11] [] [0, 1, 2, 3, 4, 5, 6, 7, 8, 9, 10, 11] rfl rfl rfl (by decide) rfl rfl rfl rfl rfl (Nat.le_of_ble_eq_true rfl) rfl d_R_room_3 (fun H locs hP hD hS => ?_)
  refine lv_istore_n (lv' := [(3, .int r3), (0, .ref h_p0), (1, .int x1), (2, .int x2)]) hx hb d_R_room_6 rfl hl (by decide) rfl (fun ls hl => ?_)
  refine lv_aload_n hx hb d_R_room_7 rfl (lv_at hl 1 rfl) ?_
  refine lv_iload_n hx hb d_R_room_8 rfl (lv_at hl 2 rfl) ?_
  obtain ⟨r9, h9, h⟩ := bd_some h
  refine wk_Vi (As := [.int x1]) (rest := []) (wc := (w_R cI cZ h_p0 h_p0_m h_p0_d h_p0_fresh h_p0_young h_p0_dropped h_p0_released h_p0_owed h_p0_counted h_p0_inMemory h_p0_onDisk h_p0_thn mem dsk fresh young dropped released owed counted inMemory onDisk thn moved)) (w1 := (w_R cI cZ h_p0 h_p0_m h_p0_d h_p0_fresh h_p0_young h_p0_dropped h_p0_released h_p0_owed h_p0_counted h_p0_inMemory h_p0_onDisk h_p0_thn mem dsk fresh young dropped released owed counted inMemory onDisk thn moved)) (wr := []) (wz := (w_R cI cZ h_p0 h_p0_m h_p0_d h_p0_fresh h_p0_young h_p0_dropped h_p0_released h_p0_owed h_p0_counted h_p0_inMemory h_p0_onDisk h_p0_thn mem dsk fresh young dropped released owed counted inMemory onDisk thn moved)) cf hK hN hA (c_R_place l D cI cZ h_p0 h_p0_m h_p0_d h_p0_fresh h_p0_young h_p0_dropped h_p0_released h_p0_owed h_p0_counted h_p0_inMemory h_p0_onDisk h_p0_thn F mem dsk fresh young dropped released owed counted inMemory onDisk thn moved x1 r9 h9) k_R_72 ⟨rfl, rfl, by decide, by decide⟩ 2 rfl rfl rfl hl hP hD hS [0, 1, 2, 3, 4, 5, 6, 7, 8, 9, 10, 11] [] [0, 1, 2, 3, 4, 5, 6, 7, 8, 9, 10, 11] rfl rfl rfl (by decide) rfl rfl rfl rfl rfl (Nat.le_of_ble_eq_true rfl) rfl d_R_room_9 (fun H locs hP hD hS => ?_)
  refine lv_if_lt hx hb d_R_room_12 rfl (fun hc => ?_) (fun hc => ?_)
  · rw [if_pos hc] at h
    exact w_R_room_38 h_p0 h_p0_m h_p0_d h_p0_fresh h_p0_young h_p0_dropped h_p0_released h_p0_owed h_p0_counted h_p0_inMemory h_p0_onDisk h_p0_thn F mem dsk fresh young dropped released owed counted inMemory onDisk thn moved r ⟨cf, hr, hlk, hK, hN, hA⟩ h H locs ls (lv_sub hl [1] rfl) hP hD hS
  · rw [if_neg hc] at h
    refine lv_iload_n hx hb d_R_room_15 rfl (lv_at hl 0 rfl) ?_
    refine lv_if_lt hx hb d_R_room_16 rfl (fun hc => ?_) (fun hc => ?_)
    · rw [if_pos hc] at h
      exact w_R_room_38 h_p0 h_p0_m h_p0_d h_p0_fresh h_p0_young h_p0_dropped h_p0_released h_p0_owed h_p0_counted h_p0_inMemory h_p0_onDisk h_p0_thn F mem dsk fresh young dropped released owed counted inMemory onDisk thn moved r ⟨cf, hr, hlk, hK, hN, hA⟩ h H locs ls (lv_sub hl [1] rfl) hP hD hS
    · rw [if_neg hc] at h
      refine lv_iload_n hx hb d_R_room_19 rfl (lv_at hl 3 rfl) ?_
      refine lv_if_eq hx hb d_R_room_20 rfl (fun hc => ?_) (fun hc => ?_)
      · rw [if_pos hc] at h
        exact w_R_room_34 h_p0 h_p0_m h_p0_d h_p0_fresh h_p0_young h_p0_dropped h_p0_released h_p0_owed h_p0_counted h_p0_inMemory h_p0_onDisk h_p0_thn F mem dsk fresh young dropped released owed counted inMemory onDisk thn moved r ⟨cf, hr, hlk, hK, hN, hA⟩ h H locs ls (lv_sub hl [1] rfl) hP hD hS
      · rw [if_neg hc] at h
        refine lv_aload_n hx hb d_R_room_23 rfl (lv_at hl 1 rfl) ?_
        refine lv_iload_n hx hb d_R_room_24 rfl (lv_at hl 0 rfl) ?_
        refine lv_bipush (v := (nI 6)) hx hb d_R_room_25 (by decide) ?_
        refine lv_idiv hx hb d_R_room_27 (by decide) ?_
        obtain ⟨r28, h28, h⟩ := bd_some h
        refine wk_Vi (As := [.int (r3 / (nI 6))]) (rest := []) (wc := (w_R cI cZ h_p0 h_p0_m h_p0_d h_p0_fresh h_p0_young h_p0_dropped h_p0_released h_p0_owed h_p0_counted h_p0_inMemory h_p0_onDisk h_p0_thn mem dsk fresh young dropped released owed counted inMemory onDisk thn moved)) (w1 := (w_R cI cZ h_p0 h_p0_m h_p0_d h_p0_fresh h_p0_young h_p0_dropped h_p0_released h_p0_owed h_p0_counted h_p0_inMemory h_p0_onDisk h_p0_thn mem dsk fresh young dropped released owed counted inMemory onDisk thn moved)) (wr := []) (wz := (w_R cI cZ h_p0 h_p0_m h_p0_d h_p0_fresh h_p0_young h_p0_dropped h_p0_released h_p0_owed h_p0_counted h_p0_inMemory h_p0_onDisk h_p0_thn mem dsk fresh young dropped released owed counted inMemory onDisk thn moved)) cf hK hN hA (c_R_blockFrom l D cI cZ h_p0 h_p0_m h_p0_d h_p0_fresh h_p0_young h_p0_dropped h_p0_released h_p0_owed h_p0_counted h_p0_inMemory h_p0_onDisk h_p0_thn F mem dsk fresh young dropped released owed counted inMemory onDisk thn moved (r3 / (nI 6)) r28 h28) k_R_99 ⟨rfl, rfl, by decide, by decide⟩ 2 rfl rfl rfl hl hP hD hS [0, 1, 2, 3, 4, 5, 6, 7, 8, 9, 10, 11] [] [0, 1, 2, 3, 4, 5, 6, 7, 8, 9, 10, 11] rfl rfl rfl (by decide) rfl rfl rfl rfl rfl (Nat.le_of_ble_eq_true rfl) rfl d_R_room_28 (fun H locs hP hD hS => ?_)
        refine lv_if_lt hx hb d_R_room_31 rfl (fun hc => ?_) (fun hc => ?_)
        · rw [if_pos hc] at h
          exact w_R_room_38 h_p0 h_p0_m h_p0_d h_p0_fresh h_p0_young h_p0_dropped h_p0_released h_p0_owed h_p0_counted h_p0_inMemory h_p0_onDisk h_p0_thn F mem dsk fresh young dropped released owed counted inMemory onDisk thn moved r ⟨cf, hr, hlk, hK, hN, hA⟩ h H locs ls (lv_sub hl [1] rfl) hP hD hS
        · rw [if_neg hc] at h
          exact w_R_room_34 h_p0 h_p0_m h_p0_d h_p0_fresh h_p0_young h_p0_dropped h_p0_released h_p0_owed h_p0_counted h_p0_inMemory h_p0_onDisk h_p0_thn F mem dsk fresh young dropped released owed counted inMemory onDisk thn moved r ⟨cf, hr, hlk, hK, hN, hA⟩ h H locs ls (lv_sub hl [1] rfl) hP hD hS
set_option maxHeartbeats 4000000 in
set_option maxRecDepth 100000 in
theorem w_R_namedOnDisk_10 {p : Program} {l : Launch} {e : Env} {s : State} {m : MethodId} {args : Array Value} {below : List Frame} {meth : Method} {c : Code} {D : va_G} {cI cZ : ClassId} {A : Nat → Prop} (h_p0 h_p0_m h_p0_d h_p0_fresh h_p0_young h_p0_dropped h_p0_released h_p0_owed h_p0_counted h_p0_inMemory h_p0_onDisk h_p0_thn : Nat) (F : Nat) (mem : (Nat → Int32)) (dsk : (Nat → Int32)) (fresh : (Nat → Int32)) (young : (Nat → Int32)) (dropped : (Nat → Int32)) (released : (Nat → Int32)) (owed : (Nat → Int32)) (counted : (Nat → Int32)) (inMemory : (Nat → Int32)) (onDisk : (Nat → Int32)) (thn : (Nat → Int32)) (moved : Int32) (r : Int32) (k2 : Int32 → Int32 → Option (Int32)) (cx : cx_ok p s m args meth c b_R_namedOnDisk 4 o_R_namedOnDisk "OrderedVolumeModel" (some .boolean) D cI cZ A) (h2 : (∀ (x1 : Int32) (x2 : Int32), k2 x1 x2 = some r → wk_G p l e rm_R_namedOnDisk s m args below meth c (sc_Qi below args s D cI cZ A (w_R cI cZ h_p0 h_p0_m h_p0_d h_p0_fresh h_p0_young h_p0_dropped h_p0_released h_p0_owed h_p0_counted h_p0_inMemory h_p0_onDisk h_p0_thn mem dsk fresh young dropped released owed counted inMemory onDisk thn moved) r) D A 4 2 [] [(0, .ref h_p0), (1, .int x1), (2, .int x2)] (w_R cI cZ h_p0 h_p0_m h_p0_d h_p0_fresh h_p0_young h_p0_dropped h_p0_released h_p0_owed h_p0_counted h_p0_inMemory h_p0_onDisk h_p0_thn mem dsk fresh young dropped released owed counted inMemory onDisk thn moved))) : ∀ (n : Nat) (x1 : Int32) (x2 : Int32) (x3 : Int32), s_R_namedOnDisk_10 F dsk k2 n x1 x2 x3 = some r → wk_G p l e rm_R_namedOnDisk s m args below meth c (sc_Qi below args s D cI cZ A (w_R cI cZ h_p0 h_p0_m h_p0_d h_p0_fresh h_p0_young h_p0_dropped h_p0_released h_p0_owed h_p0_counted h_p0_inMemory h_p0_onDisk h_p0_thn mem dsk fresh young dropped released owed counted inMemory onDisk thn moved) r) D A 4 10 [] [(0, .ref h_p0), (1, .int x1), (2, .int x2), (3, .int x3)] (w_R cI cZ h_p0 h_p0_m h_p0_d h_p0_fresh h_p0_young h_p0_dropped h_p0_released h_p0_owed h_p0_counted h_p0_inMemory h_p0_onDisk h_p0_thn mem dsk fresh young dropped released owed counted inMemory onDisk thn moved) := by
  obtain ⟨cf, hr, hlk, hK, hN, hA⟩ := cx
  have hx := cf.1
  have hb := cf.2.1
  have hown := cf.2.2.2.1
  have ht : ∀ w ∈ wA, w.before args s = true := fun w h => cf.2.2.2.2 w (List.mem_cons_of_mem _ h)
  intro n
  induction n with
  | zero => intro x1 x2 x3 h; cases (show (none : Option (Int32)) = some _ from h)
  | succ n ih =>
    intro x1 x2 x3 h H locs ls hl hP hD hS
    unfold s_R_namedOnDisk_10 at h
    refine lv_iload_n hx hb d_R_namedOnDisk_10 rfl (lv_at hl 3 rfl) ?_
    refine lv_iconst (v := (nI 5)) hx hb d_R_namedOnDisk_11 (by decide) ?_
    refine lv_icmp_ge hx hb d_R_namedOnDisk_12 rfl (fun hc => ?_) (fun hc => ?_)
    · rw [if_pos hc] at h
      refine lv_iinc (k := 2) (v := (x2 + (nI 1))) (lv' := [(2, .int (x2 + (nI 1))), (0, .ref h_p0), (1, .int x1), (3, .int x3)]) hx hb d_R_namedOnDisk_37 hl rfl rfl (by decide) rfl (fun ls hl => ?_)
      refine lv_goto hx hb d_R_namedOnDisk_40 rfl ?_
      exact h2 x1 (x2 + (nI 1)) h H locs ls (lv_sub hl [1, 2, 0] rfl) hP hD hS
    · rw [if_neg hc] at h
      refine lv_aload_n hx hb d_R_namedOnDisk_15 rfl (lv_at hl 0 rfl) ?_
      refine va_get (D := D) (ci := 2) (v := .ref h_p0_d) (C := R_R) (T := F_R) (N := 12) hx hb ht in_R hown hK hP 0 rfl rfl 1 (by decide) (ht _ f_R_13) (fun _ h9 => h9) rfl d_R_namedOnDisk_16 ?_
      refine lv_iload_n hx hb d_R_namedOnDisk_19 rfl (lv_at hl 2 rfl) ?_
      refine lv_iload_n hx hb d_R_namedOnDisk_20 rfl (lv_at hl 3 rfl) ?_
      obtain ⟨r21, h21, h⟩ := bd_some h
      refine wk_Si (As := [.int x2, .int x3]) (rest := [.ref h_p0_d]) (wc := []) (w1 := []) (wr := [(h_p0, .inr (2, [.ref h_p0_m, .ref h_p0_d, .ref h_p0_fresh, .ref h_p0_young, .ref h_p0_dropped, .ref h_p0_released, .ref h_p0_owed, .ref h_p0_counted, .ref h_p0_inMemory, .ref h_p0_onDisk, .ref h_p0_thn, .int moved])), (h_p0_m, .inl (cI, 1080, .inl mem)), (h_p0_d, .inl (cI, 1080, .inl dsk)), (h_p0_fresh, .inl (cZ, 36, .inl fresh)), (h_p0_young, .inl (cZ, 288, .inl young)), (h_p0_dropped, .inl (cI, 36, .inl dropped)), (h_p0_released, .inl (cZ, 18, .inl released)), (h_p0_owed, .inl (cI, 18, .inl owed)), (h_p0_counted, .inl (cI, 18, .inl counted)), (h_p0_inMemory, .inl (cZ, 18, .inl inMemory)), (h_p0_onDisk, .inl (cZ, 18, .inl onDisk)), (h_p0_thn, .inl (cZ, 18, .inl thn))]) (wz := (w_R cI cZ h_p0 h_p0_m h_p0_d h_p0_fresh h_p0_young h_p0_dropped h_p0_released h_p0_owed h_p0_counted h_p0_inMemory h_p0_onDisk h_p0_thn mem dsk fresh young dropped released owed counted inMemory onDisk thn moved)) cf hK hN hA (c_R_at l D cI cZ 0 x2 x3 r21 h21) k_R_44 ⟨rfl, rfl, by decide, by decide⟩ hl hP hD hS [] [0, 1, 2, 3, 4, 5, 6, 7, 8, 9, 10, 11] [0, 1, 2, 3, 4, 5, 6, 7, 8, 9, 10, 11] rfl rfl rfl (by decide) rfl rfl rfl rfl rfl (Nat.le_of_ble_eq_true rfl) rfl d_R_namedOnDisk_21 (fun H locs hP hD hS => ?_)
      obtain ⟨hin, h⟩ := gr_some h
      refine va_iald hx hb hK hP 2 0 rfl rfl hin d_R_namedOnDisk_24 ?_
      generalize dsk r21.toNatClampNeg = v24 at h ⊢
      refine lv_iload_n hx hb d_R_namedOnDisk_25 rfl (lv_at hl 1 rfl) ?_
      refine lv_icmp_ne hx hb d_R_namedOnDisk_26 rfl (fun hc => ?_) (fun hc => ?_)
      · rw [if_neg hc] at h
        refine lv_iinc (k := 3) (v := (x3 + (nI 1))) (lv' := [(3, .int (x3 + (nI 1))), (0, .ref h_p0), (1, .int x1), (2, .int x2)]) hx hb d_R_namedOnDisk_31 hl rfl rfl (by decide) rfl (fun ls hl => ?_)
        refine lv_goto hx hb d_R_namedOnDisk_34 rfl ?_
        exact ih x1 x2 (x3 + (nI 1)) h H locs ls (lv_sub hl [1, 2, 3, 0] rfl) hP hD hS
      · rw [if_pos hc] at h
        refine lv_iconst (v := (nI 1)) hx hb d_R_namedOnDisk_29 (by decide) ?_
        have hz : ((nI 1) : Int32) = 0 ∨ ((nI 1) : Int32) = 1 := by decide
        cases h
        exact sc_zret cf hr hlk hz hK hP hD hS d_R_namedOnDisk_30
set_option maxHeartbeats 4000000 in
set_option maxRecDepth 100000 in
theorem w_R_namedOnDisk_2 {p : Program} {l : Launch} {e : Env} {s : State} {m : MethodId} {args : Array Value} {below : List Frame} {meth : Method} {c : Code} {D : va_G} {cI cZ : ClassId} {A : Nat → Prop} (h_p0 h_p0_m h_p0_d h_p0_fresh h_p0_young h_p0_dropped h_p0_released h_p0_owed h_p0_counted h_p0_inMemory h_p0_onDisk h_p0_thn : Nat) (F : Nat) (mem : (Nat → Int32)) (dsk : (Nat → Int32)) (fresh : (Nat → Int32)) (young : (Nat → Int32)) (dropped : (Nat → Int32)) (released : (Nat → Int32)) (owed : (Nat → Int32)) (counted : (Nat → Int32)) (inMemory : (Nat → Int32)) (onDisk : (Nat → Int32)) (thn : (Nat → Int32)) (moved : Int32) (r : Int32) (cx : cx_ok p s m args meth c b_R_namedOnDisk 4 o_R_namedOnDisk "OrderedVolumeModel" (some .boolean) D cI cZ A) : ∀ (n : Nat) (x1 : Int32) (x2 : Int32), s_R_namedOnDisk_2 F dsk n x1 x2 = some r → wk_G p l e rm_R_namedOnDisk s m args below meth c (sc_Qi below args s D cI cZ A (w_R cI cZ h_p0 h_p0_m h_p0_d h_p0_fresh h_p0_young h_p0_dropped h_p0_released h_p0_owed h_p0_counted h_p0_inMemory h_p0_onDisk h_p0_thn mem dsk fresh young dropped released owed counted inMemory onDisk thn moved) r) D A 4 2 [] [(0, .ref h_p0), (1, .int x1), (2, .int x2)] (w_R cI cZ h_p0 h_p0_m h_p0_d h_p0_fresh h_p0_young h_p0_dropped h_p0_released h_p0_owed h_p0_counted h_p0_inMemory h_p0_onDisk h_p0_thn mem dsk fresh young dropped released owed counted inMemory onDisk thn moved) := by
  obtain ⟨cf, hr, hlk, hK, hN, hA⟩ := cx
  have hx := cf.1
  have hb := cf.2.1
  have hown := cf.2.2.2.1
  have ht : ∀ w ∈ wA, w.before args s = true := fun w h => cf.2.2.2.2 w (List.mem_cons_of_mem _ h)
  intro n
  induction n with
  | zero => intro x1 x2 h; cases (show (none : Option (Int32)) = some _ from h)
  | succ n ih =>
    intro x1 x2 h H locs ls hl hP hD hS
    unfold s_R_namedOnDisk_2 at h
    refine lv_iload_n hx hb d_R_namedOnDisk_2 rfl (lv_at hl 2 rfl) ?_
    refine lv_bipush (v := (nI 18)) hx hb d_R_namedOnDisk_3 (by decide) ?_
    refine lv_icmp_ge hx hb d_R_namedOnDisk_5 rfl (fun hc => ?_) (fun hc => ?_)
    · rw [if_pos hc] at h
      refine lv_iconst (v := (nI 0)) hx hb d_R_namedOnDisk_43 (by decide) ?_
      have hz : ((nI 0) : Int32) = 0 ∨ ((nI 0) : Int32) = 1 := by decide
      cases h
      exact sc_zret cf hr hlk hz hK hP hD hS d_R_namedOnDisk_44
    · rw [if_neg hc] at h
      refine lv_iconst (v := (nI 2)) hx hb d_R_namedOnDisk_8 (by decide) ?_
      refine lv_istore_n (lv' := [(3, .int (nI 2)), (0, .ref h_p0), (1, .int x1), (2, .int x2)]) hx hb d_R_namedOnDisk_9 rfl hl (by decide) rfl (fun ls hl => ?_)
      exact w_R_namedOnDisk_10 h_p0 h_p0_m h_p0_d h_p0_fresh h_p0_young h_p0_dropped h_p0_released h_p0_owed h_p0_counted h_p0_inMemory h_p0_onDisk h_p0_thn F mem dsk fresh young dropped released owed counted inMemory onDisk thn moved r _ ⟨cf, hr, hlk, hK, hN, hA⟩ ih F x1 x2 (nI 2) h H locs ls (lv_sub hl [1, 2, 3, 0] rfl) hP hD hS
set_option maxHeartbeats 4000000 in
set_option maxRecDepth 100000 in
theorem c_R_namedOnDisk (l : Launch) (D : va_G) (cI cZ : ClassId) (h_p0 h_p0_m h_p0_d h_p0_fresh h_p0_young h_p0_dropped h_p0_released h_p0_owed h_p0_counted h_p0_inMemory h_p0_onDisk h_p0_thn : Nat) (F : Nat) (mem : (Nat → Int32)) (dsk : (Nat → Int32)) (fresh : (Nat → Int32)) (young : (Nat → Int32)) (dropped : (Nat → Int32)) (released : (Nat → Int32)) (owed : (Nat → Int32)) (counted : (Nat → Int32)) (inMemory : (Nat → Int32)) (onDisk : (Nat → Int32)) (thn : (Nat → Int32)) (moved : Int32) (x1 : Int32) (r : Int32) (h : s_R_namedOnDisk F dsk x1 = some r) : sc_i l y_R_namedOnDisk (o_R_namedOnDisk :: wA) rm_R_namedOnDisk D cI cZ [.ref h_p0, .int x1] (w_R cI cZ h_p0 h_p0_m h_p0_d h_p0_fresh h_p0_young h_p0_dropped h_p0_released h_p0_owed h_p0_counted h_p0_inMemory h_p0_onDisk h_p0_thn mem dsk fresh young dropped released owed counted inMemory onDisk thn moved) (w_R cI cZ h_p0 h_p0_m h_p0_d h_p0_fresh h_p0_young h_p0_dropped h_p0_released h_p0_owed h_p0_counted h_p0_inMemory h_p0_onDisk h_p0_thn mem dsk fresh young dropped released owed counted inMemory onDisk thn moved) r := by
  refine sc_i_of (cc := b_R_namedOnDisk) (maxL := 4) (ret := (some .boolean)) (by decide) rfl (Nat.le_of_ble_eq_true rfl) ?_
  intro p e s m below meth c A cf hr hlk hK hN hA H locs ls hl hP hD hS
  have hx := cf.1
  have hb := cf.2.1
  have hown := cf.2.2.2.1
  have ht : ∀ w ∈ wA, w.before _ s = true := fun w h => cf.2.2.2.2 w (List.mem_cons_of_mem _ h)
  unfold s_R_namedOnDisk at h
  have hl : lv_has ls 4 [(0, .ref h_p0), (1, .int x1)] := hl
  refine lv_iconst (v := (nI 0)) hx hb d_R_namedOnDisk_0 (by decide) ?_
  refine lv_istore_n (lv' := [(2, .int (nI 0)), (0, .ref h_p0), (1, .int x1)]) hx hb d_R_namedOnDisk_1 rfl hl (by decide) rfl (fun ls hl => ?_)
  exact w_R_namedOnDisk_2 h_p0 h_p0_m h_p0_d h_p0_fresh h_p0_young h_p0_dropped h_p0_released h_p0_owed h_p0_counted h_p0_inMemory h_p0_onDisk h_p0_thn F mem dsk fresh young dropped released owed counted inMemory onDisk thn moved r ⟨cf, hr, hlk, hK, hN, hA⟩ F x1 (nI 0) h H locs ls (lv_sub hl [1, 2, 0] rfl) hP hD hS
set_option maxHeartbeats 4000000 in
set_option maxRecDepth 100000 in
theorem w_R_settle_72 {p : Program} {l : Launch} {e : Env} {s : State} {m : MethodId} {args : Array Value} {below : List Frame} {meth : Method} {c : Code} {D : va_G} {cI cZ : ClassId} {A : Nat → Prop} (h_p0 h_p0_m h_p0_d h_p0_fresh h_p0_young h_p0_dropped h_p0_released h_p0_owed h_p0_counted h_p0_inMemory h_p0_onDisk h_p0_thn : Nat) (F : Nat) (dsk : (Nat → Int32)) (fresh : (Nat → Int32)) (young : (Nat → Int32)) (inMemory : (Nat → Int32)) (onDisk : (Nat → Int32)) (thn : (Nat → Int32)) (moved : Int32) (dropped' : (Nat → Int32)) (mem' : (Nat → Int32)) (released' : (Nat → Int32)) (owed' : (Nat → Int32)) (counted' : (Nat → Int32)) (k4 : Int32 → Int32 → (Nat → Int32) → (Nat → Int32) → (Nat → Int32) → (Nat → Int32) → (Nat → Int32) → Option ((Nat → Int32) × (Nat → Int32) × (Nat → Int32) × (Nat → Int32) × (Nat → Int32))) (cx : cx_ok p s m args meth c b_R_settle 4 o_R_settle "OrderedVolumeModel" none D cI cZ A) (h4 : (∀ (x1 : Int32) (x2 : Int32) (dropped : (Nat → Int32)) (mem : (Nat → Int32)) (released : (Nat → Int32)) (owed : (Nat → Int32)) (counted : (Nat → Int32)), k4 x1 x2 dropped mem released owed counted = some (dropped', mem', released', owed', counted') → wk_G p l e rm_R_settle s m args below meth c (sc_Qv below args s D cI cZ A (w_R cI cZ h_p0 h_p0_m h_p0_d h_p0_fresh h_p0_young h_p0_dropped h_p0_released h_p0_owed h_p0_counted h_p0_inMemory h_p0_onDisk h_p0_thn (mem') dsk fresh young (dropped') (released') (owed') (counted') inMemory onDisk thn moved)) D A 4 4 [] [(0, .ref h_p0), (1, .int x1), (2, .int x2)] (w_R cI cZ h_p0 h_p0_m h_p0_d h_p0_fresh h_p0_young h_p0_dropped h_p0_released h_p0_owed h_p0_counted h_p0_inMemory h_p0_onDisk h_p0_thn mem dsk fresh young dropped released owed counted inMemory onDisk thn moved))) : ∀ (n : Nat) (x1 : Int32) (x2 : Int32) (x3 : Int32) (dropped : (Nat → Int32)) (mem : (Nat → Int32)) (released : (Nat → Int32)) (owed : (Nat → Int32)) (counted : (Nat → Int32)), s_R_settle_72 F dsk fresh k4 n x1 x2 x3 dropped mem released owed counted = some (dropped', mem', released', owed', counted') → wk_G p l e rm_R_settle s m args below meth c (sc_Qv below args s D cI cZ A (w_R cI cZ h_p0 h_p0_m h_p0_d h_p0_fresh h_p0_young h_p0_dropped h_p0_released h_p0_owed h_p0_counted h_p0_inMemory h_p0_onDisk h_p0_thn (mem') dsk fresh young (dropped') (released') (owed') (counted') inMemory onDisk thn moved)) D A 4 72 [] [(0, .ref h_p0), (1, .int x1), (2, .int x2), (3, .int x3)] (w_R cI cZ h_p0 h_p0_m h_p0_d h_p0_fresh h_p0_young h_p0_dropped h_p0_released h_p0_owed h_p0_counted h_p0_inMemory h_p0_onDisk h_p0_thn mem dsk fresh young dropped released owed counted inMemory onDisk thn moved) := by
  obtain ⟨cf, hr, hlk, hK, hN, hA⟩ := cx
  have hx := cf.1
  have hb := cf.2.1
  have hown := cf.2.2.2.1
  have ht : ∀ w ∈ wA, w.before args s = true := fun w h => cf.2.2.2.2 w (List.mem_cons_of_mem _ h)
  intro n
  induction n with
  | zero => intro x1 x2 x3 dropped mem released owed counted h; cases (show (none : Option ((Nat → Int32) × (Nat → Int32) × (Nat → Int32) × (Nat → Int32) × (Nat → Int32))) = some _ from h)
  | succ n ih =>
    intro x1 x2 x3 dropped mem released owed counted h H locs ls hl hP hD hS
    unfold s_R_settle_72 at h
    refine lv_iload_n hx hb d_R_settle_72 rfl (lv_at hl 3 rfl) ?_
    refine lv_bipush (v := (nI 18)) hx hb d_R_settle_73 (by decide) ?_
    refine lv_icmp_ge hx hb d_R_settle_75 rfl (fun hc => ?_) (fun hc => ?_)
    · rw [if_pos hc] at h
      refine lv_iinc (k := 2) (v := (x2 + (nI 1))) (lv' := [(2, .int (x2 + (nI 1))), (0, .ref h_p0), (1, .int x1), (3, .int x3)]) hx hb d_R_settle_125 hl rfl rfl (by decide) rfl (fun ls hl => ?_)
      refine lv_goto hx hb d_R_settle_128 rfl ?_
      exact h4 x1 (x2 + (nI 1)) dropped mem released owed counted h H locs ls (lv_sub hl [1, 2, 0] rfl) hP hD hS
    · rw [if_neg hc] at h
      refine lv_aload_n hx hb d_R_settle_78 rfl (lv_at hl 0 rfl) ?_
      refine va_get (D := D) (ci := 2) (v := .ref h_p0_released) (C := R_R) (T := F_R) (N := 12) hx hb ht in_R hown hK hP 0 rfl rfl 5 (by decide) (ht _ f_R_26) (fun _ h9 => h9) rfl d_R_settle_79 ?_
      refine lv_iload_n hx hb d_R_settle_82 rfl (lv_at hl 3 rfl) ?_
      obtain ⟨hin, h⟩ := gr_some h
      refine va_zald hx hb hK hP 6 1 rfl rfl hin d_R_settle_83 ?_
      generalize released x3.toNatClampNeg = v83 at h ⊢
      refine lv_if_eq hx hb d_R_settle_84 rfl (fun hc => ?_) (fun hc => ?_)
      · rw [if_pos hc] at h
        refine lv_iinc (k := 3) (v := (x3 + (nI 1))) (lv' := [(3, .int (x3 + (nI 1))), (0, .ref h_p0), (1, .int x1), (2, .int x2)]) hx hb d_R_settle_119 hl rfl rfl (by decide) rfl (fun ls hl => ?_)
        refine lv_goto hx hb d_R_settle_122 rfl ?_
        exact ih x1 x2 (x3 + (nI 1)) dropped mem released owed counted h H locs ls (lv_sub hl [1, 2, 3, 0] rfl) hP hD hS
      · rw [if_neg hc] at h
        refine lv_aload_n hx hb d_R_settle_87 rfl (lv_at hl 0 rfl) ?_
        refine va_get (D := D) (ci := 2) (v := .ref h_p0_d) (C := R_R) (T := F_R) (N := 12) hx hb ht in_R hown hK hP 0 rfl rfl 1 (by decide) (ht _ f_R_13) (fun _ h9 => h9) rfl d_R_settle_88 ?_
        refine lv_iload_n hx hb d_R_settle_91 rfl (lv_at hl 3 rfl) ?_
        refine lv_iconst (v := (nI 0)) hx hb d_R_settle_92 (by decide) ?_
        obtain ⟨r93, h93, h⟩ := bd_some h
        refine wk_Si (As := [.int x3, .int (nI 0)]) (rest := [.ref h_p0_d]) (wc := []) (w1 := []) (wr := [(h_p0, .inr (2, [.ref h_p0_m, .ref h_p0_d, .ref h_p0_fresh, .ref h_p0_young, .ref h_p0_dropped, .ref h_p0_released, .ref h_p0_owed, .ref h_p0_counted, .ref h_p0_inMemory, .ref h_p0_onDisk, .ref h_p0_thn, .int moved])), (h_p0_m, .inl (cI, 1080, .inl mem)), (h_p0_d, .inl (cI, 1080, .inl dsk)), (h_p0_fresh, .inl (cZ, 36, .inl fresh)), (h_p0_young, .inl (cZ, 288, .inl young)), (h_p0_dropped, .inl (cI, 36, .inl dropped)), (h_p0_released, .inl (cZ, 18, .inl released)), (h_p0_owed, .inl (cI, 18, .inl owed)), (h_p0_counted, .inl (cI, 18, .inl counted)), (h_p0_inMemory, .inl (cZ, 18, .inl inMemory)), (h_p0_onDisk, .inl (cZ, 18, .inl onDisk)), (h_p0_thn, .inl (cZ, 18, .inl thn))]) (wz := (w_R cI cZ h_p0 h_p0_m h_p0_d h_p0_fresh h_p0_young h_p0_dropped h_p0_released h_p0_owed h_p0_counted h_p0_inMemory h_p0_onDisk h_p0_thn mem dsk fresh young dropped released owed counted inMemory onDisk thn moved)) cf hK hN hA (c_R_at l D cI cZ 0 x3 (nI 0) r93 h93) k_R_44 ⟨rfl, rfl, by decide, by decide⟩ hl hP hD hS [] [0, 1, 2, 3, 4, 5, 6, 7, 8, 9, 10, 11] [0, 1, 2, 3, 4, 5, 6, 7, 8, 9, 10, 11] rfl rfl rfl (by decide) rfl rfl rfl rfl rfl (Nat.le_of_ble_eq_true rfl) rfl d_R_settle_93 (fun H locs hP hD hS => ?_)
        obtain ⟨hin, h⟩ := gr_some h
        refine va_iald hx hb hK hP 2 0 rfl rfl hin d_R_settle_96 ?_
        generalize dsk r93.toNatClampNeg = v96 at h ⊢
        refine lv_if_ne hx hb d_R_settle_97 rfl (fun hc => ?_) (fun hc => ?_)
        · rw [if_neg hc] at h
          refine lv_iinc (k := 3) (v := (x3 + (nI 1))) (lv' := [(3, .int (x3 + (nI 1))), (0, .ref h_p0), (1, .int x1), (2, .int x2)]) hx hb d_R_settle_119 hl rfl rfl (by decide) rfl (fun ls hl => ?_)
          refine lv_goto hx hb d_R_settle_122 rfl ?_
          exact ih x1 x2 (x3 + (nI 1)) dropped mem released owed counted h H locs ls (lv_sub hl [1, 2, 3, 0] rfl) hP hD hS
        · rw [if_pos hc] at h
          refine lv_aload_n hx hb d_R_settle_100 rfl (lv_at hl 0 rfl) ?_
          refine va_get (D := D) (ci := 2) (v := .ref h_p0_m) (C := R_R) (T := F_R) (N := 12) hx hb ht in_R hown hK hP 0 rfl rfl 0 (by decide) (ht _ f_R_7) (fun _ h9 => h9) rfl d_R_settle_101 ?_
          refine lv_iload_n hx hb d_R_settle_104 rfl (lv_at hl 3 rfl) ?_
          obtain ⟨r105, h105, h⟩ := bd_some h
          refine wk_Si (As := [.int x3]) (rest := [.ref h_p0_m]) (wc := []) (w1 := []) (wr := [(h_p0, .inr (2, [.ref h_p0_m, .ref h_p0_d, .ref h_p0_fresh, .ref h_p0_young, .ref h_p0_dropped, .ref h_p0_released, .ref h_p0_owed, .ref h_p0_counted, .ref h_p0_inMemory, .ref h_p0_onDisk, .ref h_p0_thn, .int moved])), (h_p0_m, .inl (cI, 1080, .inl mem)), (h_p0_d, .inl (cI, 1080, .inl dsk)), (h_p0_fresh, .inl (cZ, 36, .inl fresh)), (h_p0_young, .inl (cZ, 288, .inl young)), (h_p0_dropped, .inl (cI, 36, .inl dropped)), (h_p0_released, .inl (cZ, 18, .inl released)), (h_p0_owed, .inl (cI, 18, .inl owed)), (h_p0_counted, .inl (cI, 18, .inl counted)), (h_p0_inMemory, .inl (cZ, 18, .inl inMemory)), (h_p0_onDisk, .inl (cZ, 18, .inl onDisk)), (h_p0_thn, .inl (cZ, 18, .inl thn))]) (wz := (w_R cI cZ h_p0 h_p0_m h_p0_d h_p0_fresh h_p0_young h_p0_dropped h_p0_released h_p0_owed h_p0_counted h_p0_inMemory h_p0_onDisk h_p0_thn mem dsk fresh young dropped released owed counted inMemory onDisk thn moved)) cf hK hN hA (c_R_markOfInode l D cI cZ 0 x3 r105 h105) k_R_48 ⟨rfl, rfl, by decide, by decide⟩ hl hP hD hS [] [0, 1, 2, 3, 4, 5, 6, 7, 8, 9, 10, 11] [0, 1, 2, 3, 4, 5, 6, 7, 8, 9, 10, 11] rfl rfl rfl (by decide) rfl rfl rfl rfl rfl (Nat.le_of_ble_eq_true rfl) rfl d_R_settle_105 (fun H locs hP hD hS => ?_)
          refine lv_iconst (v := (nI 0)) hx hb d_R_settle_108 (by decide) ?_
          obtain ⟨hin, h⟩ := ga_some h
          refine va_iast hx hb hK hP hD hS 1 0 rfl rfl hin d_R_settle_109 (fun H locs hP hD hS => ?_)
          have hP : va_P D clA (w_R cI cZ h_p0 h_p0_m h_p0_d h_p0_fresh h_p0_young h_p0_dropped h_p0_released h_p0_owed h_p0_counted h_p0_inMemory h_p0_onDisk h_p0_thn (upd mem r105.toNatClampNeg (nI 0)) dsk fresh young dropped released owed counted inMemory onDisk thn moved) H := hP
          have hD : va_D A (w_R cI cZ h_p0 h_p0_m h_p0_d h_p0_fresh h_p0_young h_p0_dropped h_p0_released h_p0_owed h_p0_counted h_p0_inMemory h_p0_onDisk h_p0_thn (upd mem r105.toNatClampNeg (nI 0)) dsk fresh young dropped released owed counted inMemory onDisk thn moved) := hD
          refine lv_aload_n hx hb d_R_settle_110 rfl (lv_at hl 0 rfl) ?_
          refine va_get (D := D) (ci := 2) (v := .ref h_p0_released) (C := R_R) (T := F_R) (N := 12) hx hb ht in_R hown hK hP 0 rfl rfl 5 (by decide) (ht _ f_R_26) (fun _ h9 => h9) rfl d_R_settle_111 ?_
          refine lv_iload_n hx hb d_R_settle_114 rfl (lv_at hl 3 rfl) ?_
          refine lv_iconst (v := (nI 0)) hx hb d_R_settle_115 (by decide) ?_
          obtain ⟨hin, h⟩ := ga_some h
          refine va_zast hx hb hK hP hD hS 6 1 rfl rfl hin d_R_settle_116 (fun H locs hP hD hS => ?_)
          have hP : va_P D clA (w_R cI cZ h_p0 h_p0_m h_p0_d h_p0_fresh h_p0_young h_p0_dropped h_p0_released h_p0_owed h_p0_counted h_p0_inMemory h_p0_onDisk h_p0_thn (upd mem r105.toNatClampNeg (nI 0)) dsk fresh young dropped (upd released x3.toNatClampNeg (vp_nar .boolean (nI 0))) owed counted inMemory onDisk thn moved) H := hP
          have hD : va_D A (w_R cI cZ h_p0 h_p0_m h_p0_d h_p0_fresh h_p0_young h_p0_dropped h_p0_released h_p0_owed h_p0_counted h_p0_inMemory h_p0_onDisk h_p0_thn (upd mem r105.toNatClampNeg (nI 0)) dsk fresh young dropped (upd released x3.toNatClampNeg (vp_nar .boolean (nI 0))) owed counted inMemory onDisk thn moved) := hD
          refine lv_iconst (v := (nI 1)) hx hb d_R_settle_117 (by decide) ?_
          refine lv_istore_n (lv' := [(1, .int (nI 1)), (0, .ref h_p0), (2, .int x2), (3, .int x3)]) hx hb d_R_settle_118 rfl hl (by decide) rfl (fun ls hl => ?_)
          refine lv_iinc (k := 3) (v := (x3 + (nI 1))) (lv' := [(3, .int (x3 + (nI 1))), (1, .int (nI 1)), (0, .ref h_p0), (2, .int x2)]) hx hb d_R_settle_119 hl rfl rfl (by decide) rfl (fun ls hl => ?_)
          refine lv_goto hx hb d_R_settle_122 rfl ?_
          exact ih (nI 1) x2 (x3 + (nI 1)) dropped (upd mem r105.toNatClampNeg (nI 0)) (upd released x3.toNatClampNeg (vp_nar .boolean (nI 0))) owed counted h H locs ls (lv_sub hl [2, 1, 3, 0] rfl) hP hD hS
set_option maxHeartbeats 4000000 in
set_option maxRecDepth 100000 in
theorem w_R_settle_22 {p : Program} {l : Launch} {e : Env} {s : State} {m : MethodId} {args : Array Value} {below : List Frame} {meth : Method} {c : Code} {D : va_G} {cI cZ : ClassId} {A : Nat → Prop} (h_p0 h_p0_m h_p0_d h_p0_fresh h_p0_young h_p0_dropped h_p0_released h_p0_owed h_p0_counted h_p0_inMemory h_p0_onDisk h_p0_thn : Nat) (F : Nat) (dsk : (Nat → Int32)) (fresh : (Nat → Int32)) (young : (Nat → Int32)) (inMemory : (Nat → Int32)) (onDisk : (Nat → Int32)) (thn : (Nat → Int32)) (moved : Int32) (dropped' : (Nat → Int32)) (mem' : (Nat → Int32)) (released' : (Nat → Int32)) (owed' : (Nat → Int32)) (counted' : (Nat → Int32)) (k4 : Int32 → Int32 → (Nat → Int32) → (Nat → Int32) → (Nat → Int32) → (Nat → Int32) → (Nat → Int32) → Option ((Nat → Int32) × (Nat → Int32) × (Nat → Int32) × (Nat → Int32) × (Nat → Int32))) (cx : cx_ok p s m args meth c b_R_settle 4 o_R_settle "OrderedVolumeModel" none D cI cZ A) (h4 : (∀ (x1 : Int32) (x2 : Int32) (dropped : (Nat → Int32)) (mem : (Nat → Int32)) (released : (Nat → Int32)) (owed : (Nat → Int32)) (counted : (Nat → Int32)), k4 x1 x2 dropped mem released owed counted = some (dropped', mem', released', owed', counted') → wk_G p l e rm_R_settle s m args below meth c (sc_Qv below args s D cI cZ A (w_R cI cZ h_p0 h_p0_m h_p0_d h_p0_fresh h_p0_young h_p0_dropped h_p0_released h_p0_owed h_p0_counted h_p0_inMemory h_p0_onDisk h_p0_thn (mem') dsk fresh young (dropped') (released') (owed') (counted') inMemory onDisk thn moved)) D A 4 4 [] [(0, .ref h_p0), (1, .int x1), (2, .int x2)] (w_R cI cZ h_p0 h_p0_m h_p0_d h_p0_fresh h_p0_young h_p0_dropped h_p0_released h_p0_owed h_p0_counted h_p0_inMemory h_p0_onDisk h_p0_thn mem dsk fresh young dropped released owed counted inMemory onDisk thn moved))) : ∀ (n : Nat) (x1 : Int32) (x2 : Int32) (x3 : Int32) (dropped : (Nat → Int32)) (mem : (Nat → Int32)) (released : (Nat → Int32)) (owed : (Nat → Int32)) (counted : (Nat → Int32)), s_R_settle_22 F dsk fresh k4 n x1 x2 x3 dropped mem released owed counted = some (dropped', mem', released', owed', counted') → wk_G p l e rm_R_settle s m args below meth c (sc_Qv below args s D cI cZ A (w_R cI cZ h_p0 h_p0_m h_p0_d h_p0_fresh h_p0_young h_p0_dropped h_p0_released h_p0_owed h_p0_counted h_p0_inMemory h_p0_onDisk h_p0_thn (mem') dsk fresh young (dropped') (released') (owed') (counted') inMemory onDisk thn moved)) D A 4 22 [] [(0, .ref h_p0), (1, .int x1), (2, .int x2), (3, .int x3)] (w_R cI cZ h_p0 h_p0_m h_p0_d h_p0_fresh h_p0_young h_p0_dropped h_p0_released h_p0_owed h_p0_counted h_p0_inMemory h_p0_onDisk h_p0_thn mem dsk fresh young dropped released owed counted inMemory onDisk thn moved) := by
  obtain ⟨cf, hr, hlk, hK, hN, hA⟩ := cx
  have hx := cf.1
  have hb := cf.2.1
  have hown := cf.2.2.2.1
  have ht : ∀ w ∈ wA, w.before args s = true := fun w h => cf.2.2.2.2 w (List.mem_cons_of_mem _ h)
  intro n
  induction n with
  | zero => intro x1 x2 x3 dropped mem released owed counted h; cases (show (none : Option ((Nat → Int32) × (Nat → Int32) × (Nat → Int32) × (Nat → Int32) × (Nat → Int32))) = some _ from h)
  | succ n ih =>
    intro x1 x2 x3 dropped mem released owed counted h H locs ls hl hP hD hS
    unfold s_R_settle_22 at h
    refine lv_iload_n hx hb d_R_settle_22 rfl (lv_at hl 3 rfl) ?_
    refine lv_bipush (v := (nI 36)) hx hb d_R_settle_23 (by decide) ?_
    refine lv_icmp_ge hx hb d_R_settle_25 rfl (fun hc => ?_) (fun hc => ?_)
    · rw [if_pos hc] at h
      refine lv_iconst (v := (nI 0)) hx hb d_R_settle_70 (by decide) ?_
      refine lv_istore_n (lv' := [(3, .int (nI 0)), (0, .ref h_p0), (1, .int x1), (2, .int x2)]) hx hb d_R_settle_71 rfl hl (by decide) rfl (fun ls hl => ?_)
      exact w_R_settle_72 h_p0 h_p0_m h_p0_d h_p0_fresh h_p0_young h_p0_dropped h_p0_released h_p0_owed h_p0_counted h_p0_inMemory h_p0_onDisk h_p0_thn F dsk fresh young inMemory onDisk thn moved dropped' mem' released' owed' counted' _ ⟨cf, hr, hlk, hK, hN, hA⟩ h4 F x1 x2 (nI 0) dropped mem released owed counted h H locs ls (lv_sub hl [1, 2, 3, 0] rfl) hP hD hS
    · rw [if_neg hc] at h
      refine lv_aload_n hx hb d_R_settle_28 rfl (lv_at hl 0 rfl) ?_
      refine va_get (D := D) (ci := 2) (v := .ref h_p0_dropped) (C := R_R) (T := F_R) (N := 12) hx hb ht in_R hown hK hP 0 rfl rfl 4 (by decide) (ht _ f_R_23) (fun _ h9 => h9) rfl d_R_settle_29 ?_
      refine lv_iload_n hx hb d_R_settle_32 rfl (lv_at hl 3 rfl) ?_
      obtain ⟨hin, h⟩ := gr_some h
      refine va_iald hx hb hK hP 5 0 rfl rfl hin d_R_settle_33 ?_
      generalize dropped x3.toNatClampNeg = v33 at h ⊢
      refine lv_if_le hx hb d_R_settle_34 rfl (fun hc => ?_) (fun hc => ?_)
      · rw [if_pos hc] at h
        refine lv_iinc (k := 3) (v := (x3 + (nI 1))) (lv' := [(3, .int (x3 + (nI 1))), (0, .ref h_p0), (1, .int x1), (2, .int x2)]) hx hb d_R_settle_64 hl rfl rfl (by decide) rfl (fun ls hl => ?_)
        refine lv_goto hx hb d_R_settle_67 rfl ?_
        exact ih x1 x2 (x3 + (nI 1)) dropped mem released owed counted h H locs ls (lv_sub hl [1, 2, 3, 0] rfl) hP hD hS
      · rw [if_neg hc] at h
        refine lv_aload_n hx hb d_R_settle_37 rfl (lv_at hl 0 rfl) ?_
        refine lv_iload_n hx hb d_R_settle_38 rfl (lv_at hl 3 rfl) ?_
        obtain ⟨r39, h39, h⟩ := bd_some h
        refine wk_Vi (As := [.int x3]) (rest := []) (wc := (w_R cI cZ h_p0 h_p0_m h_p0_d h_p0_fresh h_p0_young h_p0_dropped h_p0_released h_p0_owed h_p0_counted h_p0_inMemory h_p0_onDisk h_p0_thn mem dsk fresh young dropped released owed counted inMemory onDisk thn moved)) (w1 := (w_R cI cZ h_p0 h_p0_m h_p0_d h_p0_fresh h_p0_young h_p0_dropped h_p0_released h_p0_owed h_p0_counted h_p0_inMemory h_p0_onDisk h_p0_thn mem dsk fresh young dropped released owed counted inMemory onDisk thn moved)) (wr := []) (wz := (w_R cI cZ h_p0 h_p0_m h_p0_d h_p0_fresh h_p0_young h_p0_dropped h_p0_released h_p0_owed h_p0_counted h_p0_inMemory h_p0_onDisk h_p0_thn mem dsk fresh young dropped released owed counted inMemory onDisk thn moved)) cf hK hN hA (c_R_namedOnDisk l D cI cZ h_p0 h_p0_m h_p0_d h_p0_fresh h_p0_young h_p0_dropped h_p0_released h_p0_owed h_p0_counted h_p0_inMemory h_p0_onDisk h_p0_thn F mem dsk fresh young dropped released owed counted inMemory onDisk thn moved x3 r39 h39) k_R_89 ⟨rfl, rfl, by decide, by decide⟩ 2 rfl rfl rfl hl hP hD hS [0, 1, 2, 3, 4, 5, 6, 7, 8, 9, 10, 11] [] [0, 1, 2, 3, 4, 5, 6, 7, 8, 9, 10, 11] rfl rfl rfl (by decide) rfl rfl rfl rfl rfl (Nat.le_of_ble_eq_true rfl) rfl d_R_settle_39 (fun H locs hP hD hS => ?_)
        refine lv_if_ne hx hb d_R_settle_42 rfl (fun hc => ?_) (fun hc => ?_)
        · rw [if_neg hc] at h
          refine lv_iinc (k := 3) (v := (x3 + (nI 1))) (lv' := [(3, .int (x3 + (nI 1))), (0, .ref h_p0), (1, .int x1), (2, .int x2)]) hx hb d_R_settle_64 hl rfl rfl (by decide) rfl (fun ls hl => ?_)
          refine lv_goto hx hb d_R_settle_67 rfl ?_
          exact ih x1 x2 (x3 + (nI 1)) dropped mem released owed counted h H locs ls (lv_sub hl [1, 2, 3, 0] rfl) hP hD hS
        · rw [if_pos hc] at h
          refine lv_aload_n hx hb d_R_settle_45 rfl (lv_at hl 0 rfl) ?_
          refine va_get (D := D) (ci := 2) (v := .ref h_p0_m) (C := R_R) (T := F_R) (N := 12) hx hb ht in_R hown hK hP 0 rfl rfl 0 (by decide) (ht _ f_R_7) (fun _ h9 => h9) rfl d_R_settle_46 ?_
          refine lv_iload_n hx hb d_R_settle_49 rfl (lv_at hl 3 rfl) ?_
          obtain ⟨r50, h50, h⟩ := bd_some h
          refine wk_Si (As := [.int x3]) (rest := [.ref h_p0_m]) (wc := []) (w1 := []) (wr := [(h_p0, .inr (2, [.ref h_p0_m, .ref h_p0_d, .ref h_p0_fresh, .ref h_p0_young, .ref h_p0_dropped, .ref h_p0_released, .ref h_p0_owed, .ref h_p0_counted, .ref h_p0_inMemory, .ref h_p0_onDisk, .ref h_p0_thn, .int moved])), (h_p0_m, .inl (cI, 1080, .inl mem)), (h_p0_d, .inl (cI, 1080, .inl dsk)), (h_p0_fresh, .inl (cZ, 36, .inl fresh)), (h_p0_young, .inl (cZ, 288, .inl young)), (h_p0_dropped, .inl (cI, 36, .inl dropped)), (h_p0_released, .inl (cZ, 18, .inl released)), (h_p0_owed, .inl (cI, 18, .inl owed)), (h_p0_counted, .inl (cI, 18, .inl counted)), (h_p0_inMemory, .inl (cZ, 18, .inl inMemory)), (h_p0_onDisk, .inl (cZ, 18, .inl onDisk)), (h_p0_thn, .inl (cZ, 18, .inl thn))]) (wz := (w_R cI cZ h_p0 h_p0_m h_p0_d h_p0_fresh h_p0_young h_p0_dropped h_p0_released h_p0_owed h_p0_counted h_p0_inMemory h_p0_onDisk h_p0_thn mem dsk fresh young dropped released owed counted inMemory onDisk thn moved)) cf hK hN hA (c_R_markOfBlock l D cI cZ 0 x3 r50 h50) k_R_52 ⟨rfl, rfl, by decide, by decide⟩ hl hP hD hS [] [0, 1, 2, 3, 4, 5, 6, 7, 8, 9, 10, 11] [0, 1, 2, 3, 4, 5, 6, 7, 8, 9, 10, 11] rfl rfl rfl (by decide) rfl rfl rfl rfl rfl (Nat.le_of_ble_eq_true rfl) rfl d_R_settle_50 (fun H locs hP hD hS => ?_)
          refine lv_iconst (v := (nI 0)) hx hb d_R_settle_53 (by decide) ?_
          obtain ⟨hin, h⟩ := ga_some h
          refine va_iast hx hb hK hP hD hS 1 0 rfl rfl hin d_R_settle_54 (fun H locs hP hD hS => ?_)
          have hP : va_P D clA (w_R cI cZ h_p0 h_p0_m h_p0_d h_p0_fresh h_p0_young h_p0_dropped h_p0_released h_p0_owed h_p0_counted h_p0_inMemory h_p0_onDisk h_p0_thn (upd mem r50.toNatClampNeg (nI 0)) dsk fresh young dropped released owed counted inMemory onDisk thn moved) H := hP
          have hD : va_D A (w_R cI cZ h_p0 h_p0_m h_p0_d h_p0_fresh h_p0_young h_p0_dropped h_p0_released h_p0_owed h_p0_counted h_p0_inMemory h_p0_onDisk h_p0_thn (upd mem r50.toNatClampNeg (nI 0)) dsk fresh young dropped released owed counted inMemory onDisk thn moved) := hD
          refine lv_aload_n hx hb d_R_settle_55 rfl (lv_at hl 0 rfl) ?_
          refine va_get (D := D) (ci := 2) (v := .ref h_p0_dropped) (C := R_R) (T := F_R) (N := 12) hx hb ht in_R hown hK hP 0 rfl rfl 4 (by decide) (ht _ f_R_23) (fun _ h9 => h9) rfl d_R_settle_56 ?_
          refine lv_iload_n hx hb d_R_settle_59 rfl (lv_at hl 3 rfl) ?_
          refine lv_iconst (v := (nI 0)) hx hb d_R_settle_60 (by decide) ?_
          obtain ⟨hin, h⟩ := ga_some h
          refine va_iast hx hb hK hP hD hS 5 0 rfl rfl hin d_R_settle_61 (fun H locs hP hD hS => ?_)
          have hP : va_P D clA (w_R cI cZ h_p0 h_p0_m h_p0_d h_p0_fresh h_p0_young h_p0_dropped h_p0_released h_p0_owed h_p0_counted h_p0_inMemory h_p0_onDisk h_p0_thn (upd mem r50.toNatClampNeg (nI 0)) dsk fresh young (upd dropped x3.toNatClampNeg (nI 0)) released owed counted inMemory onDisk thn moved) H := hP
          have hD : va_D A (w_R cI cZ h_p0 h_p0_m h_p0_d h_p0_fresh h_p0_young h_p0_dropped h_p0_released h_p0_owed h_p0_counted h_p0_inMemory h_p0_onDisk h_p0_thn (upd mem r50.toNatClampNeg (nI 0)) dsk fresh young (upd dropped x3.toNatClampNeg (nI 0)) released owed counted inMemory onDisk thn moved) := hD
          refine lv_iconst (v := (nI 1)) hx hb d_R_settle_62 (by decide) ?_
          refine lv_istore_n (lv' := [(1, .int (nI 1)), (0, .ref h_p0), (2, .int x2), (3, .int x3)]) hx hb d_R_settle_63 rfl hl (by decide) rfl (fun ls hl => ?_)
          refine lv_iinc (k := 3) (v := (x3 + (nI 1))) (lv' := [(3, .int (x3 + (nI 1))), (1, .int (nI 1)), (0, .ref h_p0), (2, .int x2)]) hx hb d_R_settle_64 hl rfl rfl (by decide) rfl (fun ls hl => ?_)
          refine lv_goto hx hb d_R_settle_67 rfl ?_
          exact ih (nI 1) x2 (x3 + (nI 1)) (upd dropped x3.toNatClampNeg (nI 0)) (upd mem r50.toNatClampNeg (nI 0)) released owed counted h H locs ls (lv_sub hl [2, 1, 3, 0] rfl) hP hD hS
set_option maxHeartbeats 4000000 in
set_option maxRecDepth 100000 in
theorem w_R_settle_4 {p : Program} {l : Launch} {e : Env} {s : State} {m : MethodId} {args : Array Value} {below : List Frame} {meth : Method} {c : Code} {D : va_G} {cI cZ : ClassId} {A : Nat → Prop} (h_p0 h_p0_m h_p0_d h_p0_fresh h_p0_young h_p0_dropped h_p0_released h_p0_owed h_p0_counted h_p0_inMemory h_p0_onDisk h_p0_thn : Nat) (F : Nat) (dsk : (Nat → Int32)) (fresh : (Nat → Int32)) (young : (Nat → Int32)) (inMemory : (Nat → Int32)) (onDisk : (Nat → Int32)) (thn : (Nat → Int32)) (moved : Int32) (dropped' : (Nat → Int32)) (mem' : (Nat → Int32)) (released' : (Nat → Int32)) (owed' : (Nat → Int32)) (counted' : (Nat → Int32)) (cx : cx_ok p s m args meth c b_R_settle 4 o_R_settle "OrderedVolumeModel" none D cI cZ A) : ∀ (n : Nat) (x1 : Int32) (x2 : Int32) (dropped : (Nat → Int32)) (mem : (Nat → Int32)) (released : (Nat → Int32)) (owed : (Nat → Int32)) (counted : (Nat → Int32)), s_R_settle_4 F dsk fresh n x1 x2 dropped mem released owed counted = some (dropped', mem', released', owed', counted') → wk_G p l e rm_R_settle s m args below meth c (sc_Qv below args s D cI cZ A (w_R cI cZ h_p0 h_p0_m h_p0_d h_p0_fresh h_p0_young h_p0_dropped h_p0_released h_p0_owed h_p0_counted h_p0_inMemory h_p0_onDisk h_p0_thn (mem') dsk fresh young (dropped') (released') (owed') (counted') inMemory onDisk thn moved)) D A 4 4 [] [(0, .ref h_p0), (1, .int x1), (2, .int x2)] (w_R cI cZ h_p0 h_p0_m h_p0_d h_p0_fresh h_p0_young h_p0_dropped h_p0_released h_p0_owed h_p0_counted h_p0_inMemory h_p0_onDisk h_p0_thn mem dsk fresh young dropped released owed counted inMemory onDisk thn moved) := by
  obtain ⟨cf, hr, hlk, hK, hN, hA⟩ := cx
  have hx := cf.1
  have hb := cf.2.1
  have hown := cf.2.2.2.1
  have ht : ∀ w ∈ wA, w.before args s = true := fun w h => cf.2.2.2.2 w (List.mem_cons_of_mem _ h)
  intro n
  induction n with
  | zero => intro x1 x2 dropped mem released owed counted h; cases (show (none : Option ((Nat → Int32) × (Nat → Int32) × (Nat → Int32) × (Nat → Int32) × (Nat → Int32))) = some _ from h)
  | succ n ih =>
    intro x1 x2 dropped mem released owed counted h H locs ls hl hP hD hS
    unfold s_R_settle_4 at h
    refine lv_iload_n hx hb d_R_settle_4 rfl (lv_at hl 2 rfl) ?_
    refine lv_sipush (v := (nI 200)) hx hb d_R_settle_5 (by decide) ?_
    refine lv_icmp_ge hx hb d_R_settle_8 rfl (fun hc => ?_) (fun hc => ?_)
    · rw [if_pos hc] at h
      cases h
      exact sc_vret cf hr hlk hK hP hD hS d_R_settle_131
    · rw [if_neg hc] at h
      refine lv_iload_n hx hb d_R_settle_11 rfl (lv_at hl 1 rfl) ?_
      refine lv_if_eq hx hb d_R_settle_12 rfl (fun hc => ?_) (fun hc => ?_)
      · rw [if_pos hc] at h
        cases h
        exact sc_vret cf hr hlk hK hP hD hS d_R_settle_131
      · rw [if_neg hc] at h
        refine lv_aload_n hx hb d_R_settle_15 rfl (lv_at hl 0 rfl) ?_
        obtain ⟨⟨r16, dropped_16, mem_16, released_16, owed_16, counted_16⟩, h16, h⟩ := bd_some h
        dsimp only at h
        refine wk_Vi (As := []) (rest := []) (wc := (w_R cI cZ h_p0 h_p0_m h_p0_d h_p0_fresh h_p0_young h_p0_dropped h_p0_released h_p0_owed h_p0_counted h_p0_inMemory h_p0_onDisk h_p0_thn mem dsk fresh young dropped released owed counted inMemory onDisk thn moved)) (w1 := (w_R cI cZ h_p0 h_p0_m h_p0_d h_p0_fresh h_p0_young h_p0_dropped h_p0_released h_p0_owed h_p0_counted h_p0_inMemory h_p0_onDisk h_p0_thn mem_16 dsk fresh young dropped_16 released_16 owed_16 counted_16 inMemory onDisk thn moved)) (wr := []) (wz := (w_R cI cZ h_p0 h_p0_m h_p0_d h_p0_fresh h_p0_young h_p0_dropped h_p0_released h_p0_owed h_p0_counted h_p0_inMemory h_p0_onDisk h_p0_thn mem_16 dsk fresh young dropped_16 released_16 owed_16 counted_16 inMemory onDisk thn moved)) cf hK hN hA (c_R_count l D cI cZ h_p0 h_p0_m h_p0_d h_p0_fresh h_p0_young h_p0_dropped h_p0_released h_p0_owed h_p0_counted h_p0_inMemory h_p0_onDisk h_p0_thn F mem dsk fresh young dropped released owed counted inMemory onDisk thn moved dropped_16 mem_16 released_16 owed_16 counted_16 r16 h16) k_R_85 ⟨rfl, rfl, by decide, by decide⟩ 2 rfl rfl rfl hl hP hD hS [0, 1, 2, 3, 4, 5, 6, 7, 8, 9, 10, 11] [] [0, 1, 2, 3, 4, 5, 6, 7, 8, 9, 10, 11] rfl rfl rfl (by decide) rfl rfl rfl rfl rfl (Nat.le_of_ble_eq_true rfl) rfl d_R_settle_16 (fun H locs hP hD hS => ?_)
        refine lv_istore_n (lv' := [(1, .int r16), (0, .ref h_p0), (2, .int x2)]) hx hb d_R_settle_19 rfl hl (by decide) rfl (fun ls hl => ?_)
        refine lv_iconst (v := (nI 0)) hx hb d_R_settle_20 (by decide) ?_
        refine lv_istore_n (lv' := [(3, .int (nI 0)), (1, .int r16), (0, .ref h_p0), (2, .int x2)]) hx hb d_R_settle_21 rfl hl (by decide) rfl (fun ls hl => ?_)
        exact w_R_settle_22 h_p0 h_p0_m h_p0_d h_p0_fresh h_p0_young h_p0_dropped h_p0_released h_p0_owed h_p0_counted h_p0_inMemory h_p0_onDisk h_p0_thn F dsk fresh young inMemory onDisk thn moved dropped' mem' released' owed' counted' _ ⟨cf, hr, hlk, hK, hN, hA⟩ ih F r16 x2 (nI 0) dropped_16 mem_16 released_16 owed_16 counted_16 h H locs ls (lv_sub hl [2, 1, 3, 0] rfl) hP hD hS
set_option maxHeartbeats 4000000 in
set_option maxRecDepth 100000 in
theorem c_R_settle (l : Launch) (D : va_G) (cI cZ : ClassId) (h_p0 h_p0_m h_p0_d h_p0_fresh h_p0_young h_p0_dropped h_p0_released h_p0_owed h_p0_counted h_p0_inMemory h_p0_onDisk h_p0_thn : Nat) (F : Nat) (mem : (Nat → Int32)) (dsk : (Nat → Int32)) (fresh : (Nat → Int32)) (young : (Nat → Int32)) (dropped : (Nat → Int32)) (released : (Nat → Int32)) (owed : (Nat → Int32)) (counted : (Nat → Int32)) (inMemory : (Nat → Int32)) (onDisk : (Nat → Int32)) (thn : (Nat → Int32)) (moved : Int32) (dropped' : (Nat → Int32)) (mem' : (Nat → Int32)) (released' : (Nat → Int32)) (owed' : (Nat → Int32)) (counted' : (Nat → Int32)) (h : s_R_settle F dsk fresh dropped mem released owed counted = some (dropped', mem', released', owed', counted')) : sc_v l y_R_settle (o_R_settle :: wA) rm_R_settle D cI cZ [.ref h_p0] (w_R cI cZ h_p0 h_p0_m h_p0_d h_p0_fresh h_p0_young h_p0_dropped h_p0_released h_p0_owed h_p0_counted h_p0_inMemory h_p0_onDisk h_p0_thn mem dsk fresh young dropped released owed counted inMemory onDisk thn moved) (w_R cI cZ h_p0 h_p0_m h_p0_d h_p0_fresh h_p0_young h_p0_dropped h_p0_released h_p0_owed h_p0_counted h_p0_inMemory h_p0_onDisk h_p0_thn (mem') dsk fresh young (dropped') (released') (owed') (counted') inMemory onDisk thn moved) := by
  refine sc_v_of (cc := b_R_settle) (maxL := 4) (ret := none) (by decide) rfl (Nat.le_of_ble_eq_true rfl) ?_
  intro p e s m below meth c A cf hr hlk hK hN hA H locs ls hl hP hD hS
  have hx := cf.1
  have hb := cf.2.1
  have hown := cf.2.2.2.1
  have ht : ∀ w ∈ wA, w.before _ s = true := fun w h => cf.2.2.2.2 w (List.mem_cons_of_mem _ h)
  unfold s_R_settle at h
  have hl : lv_has ls 4 [(0, .ref h_p0)] := hl
  refine lv_iconst (v := (nI 1)) hx hb d_R_settle_0 (by decide) ?_
  refine lv_istore_n (lv' := [(1, .int (nI 1)), (0, .ref h_p0)]) hx hb d_R_settle_1 rfl hl (by decide) rfl (fun ls hl => ?_)
  refine lv_iconst (v := (nI 0)) hx hb d_R_settle_2 (by decide) ?_
  refine lv_istore_n (lv' := [(2, .int (nI 0)), (1, .int (nI 1)), (0, .ref h_p0)]) hx hb d_R_settle_3 rfl hl (by decide) rfl (fun ls hl => ?_)
  exact w_R_settle_4 h_p0 h_p0_m h_p0_d h_p0_fresh h_p0_young h_p0_dropped h_p0_released h_p0_owed h_p0_counted h_p0_inMemory h_p0_onDisk h_p0_thn F dsk fresh young inMemory onDisk thn moved dropped' mem' released' owed' counted' ⟨cf, hr, hlk, hK, hN, hA⟩ F (nI 1) (nI 0) dropped mem released owed counted h H locs ls (lv_sub hl [2, 1, 0] rfl) hP hD hS
set_option maxHeartbeats 4000000 in
set_option maxRecDepth 100000 in
theorem w_R_flushTable_194 {p : Program} {l : Launch} {e : Env} {s : State} {m : MethodId} {args : Array Value} {below : List Frame} {meth : Method} {c : Code} {D : va_G} {cI cZ : ClassId} {A : Nat → Prop} (h_p0 h_p0_m h_p0_d h_p0_fresh h_p0_young h_p0_dropped h_p0_released h_p0_owed h_p0_counted h_p0_inMemory h_p0_onDisk h_p0_thn : Nat) (F : Nat) (fresh : (Nat → Int32)) (inMemory : (Nat → Int32)) (onDisk : (Nat → Int32)) (thn : (Nat → Int32)) (moved : Int32) (young' : (Nat → Int32)) (dropped' : (Nat → Int32)) (mem' : (Nat → Int32)) (dsk' : (Nat → Int32)) (released' : (Nat → Int32)) (owed' : (Nat → Int32)) (counted' : (Nat → Int32)) (r : Int32) (k134 : Int32 → Int32 → Int32 → (Nat → Int32) → (Nat → Int32) → (Nat → Int32) → (Nat → Int32) → (Nat → Int32) → (Nat → Int32) → (Nat → Int32) → Option (Int32 × (Nat → Int32) × (Nat → Int32) × (Nat → Int32) × (Nat → Int32) × (Nat → Int32) × (Nat → Int32) × (Nat → Int32))) (cx : cx_ok p s m args meth c b_R_flushTable 6 o_R_flushTable "OrderedVolumeModel" (some .int) D cI cZ A) (h134 : (∀ (x1 : Int32) (x2 : Int32) (x3 : Int32) (young : (Nat → Int32)) (dropped : (Nat → Int32)) (mem : (Nat → Int32)) (dsk : (Nat → Int32)) (released : (Nat → Int32)) (owed : (Nat → Int32)) (counted : (Nat → Int32)), k134 x1 x2 x3 young dropped mem dsk released owed counted = some (r, young', dropped', mem', dsk', released', owed', counted') → wk_G p l e rm_R_flushTable s m args below meth c (sc_Qi below args s D cI cZ A (w_R cI cZ h_p0 h_p0_m h_p0_d h_p0_fresh h_p0_young h_p0_dropped h_p0_released h_p0_owed h_p0_counted h_p0_inMemory h_p0_onDisk h_p0_thn (mem') (dsk') fresh (young') (dropped') (released') (owed') (counted') inMemory onDisk thn moved) r) D A 6 134 [] [(0, .ref h_p0), (1, .int x1), (2, .int x2), (3, .int x3)] (w_R cI cZ h_p0 h_p0_m h_p0_d h_p0_fresh h_p0_young h_p0_dropped h_p0_released h_p0_owed h_p0_counted h_p0_inMemory h_p0_onDisk h_p0_thn mem dsk fresh young dropped released owed counted inMemory onDisk thn moved))) : ∀ (x1 : Int32) (x2 : Int32) (x3 : Int32) (t1 : Int32) (t2 : Int32) (young : (Nat → Int32)) (dropped : (Nat → Int32)) (mem : (Nat → Int32)) (dsk : (Nat → Int32)) (released : (Nat → Int32)) (owed : (Nat → Int32)) (counted : (Nat → Int32)), s_R_flushTable_194 F fresh k134 x1 x2 x3 t1 t2 young dropped mem dsk released owed counted = some (r, young', dropped', mem', dsk', released', owed', counted') → wk_G p l e rm_R_flushTable s m args below meth c (sc_Qi below args s D cI cZ A (w_R cI cZ h_p0 h_p0_m h_p0_d h_p0_fresh h_p0_young h_p0_dropped h_p0_released h_p0_owed h_p0_counted h_p0_inMemory h_p0_onDisk h_p0_thn (mem') (dsk') fresh (young') (dropped') (released') (owed') (counted') inMemory onDisk thn moved) r) D A 6 194 [.int t2, .int t1, .ref h_p0_young] [(0, .ref h_p0), (1, .int x1), (2, .int x2), (3, .int x3)] (w_R cI cZ h_p0 h_p0_m h_p0_d h_p0_fresh h_p0_young h_p0_dropped h_p0_released h_p0_owed h_p0_counted h_p0_inMemory h_p0_onDisk h_p0_thn mem dsk fresh young dropped released owed counted inMemory onDisk thn moved) := by
  obtain ⟨cf, hr, hlk, hK, hN, hA⟩ := cx
  have hx := cf.1
  have hb := cf.2.1
  have hown := cf.2.2.2.1
  have ht : ∀ w ∈ wA, w.before args s = true := fun w h => cf.2.2.2.2 w (List.mem_cons_of_mem _ h)
  intro x1 x2 x3 t1 t2 young dropped mem dsk released owed counted h H locs ls hl hP hD hS
  unfold s_R_flushTable_194 at h
  obtain ⟨hin, h⟩ := ga_some h
  refine va_zast hx hb hK hP hD hS 4 1 rfl rfl hin d_R_flushTable_194 (fun H locs hP hD hS => ?_)
  have hP : va_P D clA (w_R cI cZ h_p0 h_p0_m h_p0_d h_p0_fresh h_p0_young h_p0_dropped h_p0_released h_p0_owed h_p0_counted h_p0_inMemory h_p0_onDisk h_p0_thn mem dsk fresh (upd young t1.toNatClampNeg (vp_nar .boolean t2)) dropped released owed counted inMemory onDisk thn moved) H := hP
  have hD : va_D A (w_R cI cZ h_p0 h_p0_m h_p0_d h_p0_fresh h_p0_young h_p0_dropped h_p0_released h_p0_owed h_p0_counted h_p0_inMemory h_p0_onDisk h_p0_thn mem dsk fresh (upd young t1.toNatClampNeg (vp_nar .boolean t2)) dropped released owed counted inMemory onDisk thn moved) := hD
  refine lv_iinc (k := 3) (v := (x3 + (nI 1))) (lv' := [(3, .int (x3 + (nI 1))), (0, .ref h_p0), (1, .int x1), (2, .int x2)]) hx hb d_R_flushTable_195 hl rfl rfl (by decide) rfl (fun ls hl => ?_)
  refine lv_goto hx hb d_R_flushTable_198 rfl ?_
  exact h134 x1 x2 (x3 + (nI 1)) (upd young t1.toNatClampNeg (vp_nar .boolean t2)) dropped mem dsk released owed counted h H locs ls (lv_sub hl [1, 2, 3, 0] rfl) hP hD hS
set_option maxHeartbeats 4000000 in
set_option maxRecDepth 100000 in
theorem w_R_flushTable_193 {p : Program} {l : Launch} {e : Env} {s : State} {m : MethodId} {args : Array Value} {below : List Frame} {meth : Method} {c : Code} {D : va_G} {cI cZ : ClassId} {A : Nat → Prop} (h_p0 h_p0_m h_p0_d h_p0_fresh h_p0_young h_p0_dropped h_p0_released h_p0_owed h_p0_counted h_p0_inMemory h_p0_onDisk h_p0_thn : Nat) (F : Nat) (fresh : (Nat → Int32)) (inMemory : (Nat → Int32)) (onDisk : (Nat → Int32)) (thn : (Nat → Int32)) (moved : Int32) (young' : (Nat → Int32)) (dropped' : (Nat → Int32)) (mem' : (Nat → Int32)) (dsk' : (Nat → Int32)) (released' : (Nat → Int32)) (owed' : (Nat → Int32)) (counted' : (Nat → Int32)) (r : Int32) (k134 : Int32 → Int32 → Int32 → (Nat → Int32) → (Nat → Int32) → (Nat → Int32) → (Nat → Int32) → (Nat → Int32) → (Nat → Int32) → (Nat → Int32) → Option (Int32 × (Nat → Int32) × (Nat → Int32) × (Nat → Int32) × (Nat → Int32) × (Nat → Int32) × (Nat → Int32) × (Nat → Int32))) (cx : cx_ok p s m args meth c b_R_flushTable 6 o_R_flushTable "OrderedVolumeModel" (some .int) D cI cZ A) (h134 : (∀ (x1 : Int32) (x2 : Int32) (x3 : Int32) (young : (Nat → Int32)) (dropped : (Nat → Int32)) (mem : (Nat → Int32)) (dsk : (Nat → Int32)) (released : (Nat → Int32)) (owed : (Nat → Int32)) (counted : (Nat → Int32)), k134 x1 x2 x3 young dropped mem dsk released owed counted = some (r, young', dropped', mem', dsk', released', owed', counted') → wk_G p l e rm_R_flushTable s m args below meth c (sc_Qi below args s D cI cZ A (w_R cI cZ h_p0 h_p0_m h_p0_d h_p0_fresh h_p0_young h_p0_dropped h_p0_released h_p0_owed h_p0_counted h_p0_inMemory h_p0_onDisk h_p0_thn (mem') (dsk') fresh (young') (dropped') (released') (owed') (counted') inMemory onDisk thn moved) r) D A 6 134 [] [(0, .ref h_p0), (1, .int x1), (2, .int x2), (3, .int x3)] (w_R cI cZ h_p0 h_p0_m h_p0_d h_p0_fresh h_p0_young h_p0_dropped h_p0_released h_p0_owed h_p0_counted h_p0_inMemory h_p0_onDisk h_p0_thn mem dsk fresh young dropped released owed counted inMemory onDisk thn moved))) : ∀ (x1 : Int32) (x2 : Int32) (x3 : Int32) (t1 : Int32) (young : (Nat → Int32)) (dropped : (Nat → Int32)) (mem : (Nat → Int32)) (dsk : (Nat → Int32)) (released : (Nat → Int32)) (owed : (Nat → Int32)) (counted : (Nat → Int32)), s_R_flushTable_193 F fresh k134 x1 x2 x3 t1 young dropped mem dsk released owed counted = some (r, young', dropped', mem', dsk', released', owed', counted') → wk_G p l e rm_R_flushTable s m args below meth c (sc_Qi below args s D cI cZ A (w_R cI cZ h_p0 h_p0_m h_p0_d h_p0_fresh h_p0_young h_p0_dropped h_p0_released h_p0_owed h_p0_counted h_p0_inMemory h_p0_onDisk h_p0_thn (mem') (dsk') fresh (young') (dropped') (released') (owed') (counted') inMemory onDisk thn moved) r) D A 6 193 [.int t1, .ref h_p0_young] [(0, .ref h_p0), (1, .int x1), (2, .int x2), (3, .int x3)] (w_R cI cZ h_p0 h_p0_m h_p0_d h_p0_fresh h_p0_young h_p0_dropped h_p0_released h_p0_owed h_p0_counted h_p0_inMemory h_p0_onDisk h_p0_thn mem dsk fresh young dropped released owed counted inMemory onDisk thn moved) := by
  obtain ⟨cf, hr, hlk, hK, hN, hA⟩ := cx
  have hx := cf.1
  have hb := cf.2.1
  have hown := cf.2.2.2.1
  have ht : ∀ w ∈ wA, w.before args s = true := fun w h => cf.2.2.2.2 w (List.mem_cons_of_mem _ h)
  intro x1 x2 x3 t1 young dropped mem dsk released owed counted h H locs ls hl hP hD hS
  unfold s_R_flushTable_193 at h
  refine lv_iconst (v := (nI 0)) hx hb d_R_flushTable_193 (by decide) ?_
  exact w_R_flushTable_194 h_p0 h_p0_m h_p0_d h_p0_fresh h_p0_young h_p0_dropped h_p0_released h_p0_owed h_p0_counted h_p0_inMemory h_p0_onDisk h_p0_thn F fresh inMemory onDisk thn moved young' dropped' mem' dsk' released' owed' counted' r _ ⟨cf, hr, hlk, hK, hN, hA⟩ h134 x1 x2 x3 t1 (nI 0) young dropped mem dsk released owed counted h H locs ls (lv_sub hl [0, 1, 2, 3] rfl) hP hD hS
set_option maxHeartbeats 4000000 in
set_option maxRecDepth 100000 in
theorem w_R_flushTable_134 {p : Program} {l : Launch} {e : Env} {s : State} {m : MethodId} {args : Array Value} {below : List Frame} {meth : Method} {c : Code} {D : va_G} {cI cZ : ClassId} {A : Nat → Prop} (h_p0 h_p0_m h_p0_d h_p0_fresh h_p0_young h_p0_dropped h_p0_released h_p0_owed h_p0_counted h_p0_inMemory h_p0_onDisk h_p0_thn : Nat) (F : Nat) (fresh : (Nat → Int32)) (inMemory : (Nat → Int32)) (onDisk : (Nat → Int32)) (thn : (Nat → Int32)) (moved : Int32) (young' : (Nat → Int32)) (dropped' : (Nat → Int32)) (mem' : (Nat → Int32)) (dsk' : (Nat → Int32)) (released' : (Nat → Int32)) (owed' : (Nat → Int32)) (counted' : (Nat → Int32)) (r : Int32) (cx : cx_ok p s m args meth c b_R_flushTable 6 o_R_flushTable "OrderedVolumeModel" (some .int) D cI cZ A) : ∀ (n : Nat) (x1 : Int32) (x2 : Int32) (x3 : Int32) (young : (Nat → Int32)) (dropped : (Nat → Int32)) (mem : (Nat → Int32)) (dsk : (Nat → Int32)) (released : (Nat → Int32)) (owed : (Nat → Int32)) (counted : (Nat → Int32)), s_R_flushTable_134 F fresh n x1 x2 x3 young dropped mem dsk released owed counted = some (r, young', dropped', mem', dsk', released', owed', counted') → wk_G p l e rm_R_flushTable s m args below meth c (sc_Qi below args s D cI cZ A (w_R cI cZ h_p0 h_p0_m h_p0_d h_p0_fresh h_p0_young h_p0_dropped h_p0_released h_p0_owed h_p0_counted h_p0_inMemory h_p0_onDisk h_p0_thn (mem') (dsk') fresh (young') (dropped') (released') (owed') (counted') inMemory onDisk thn moved) r) D A 6 134 [] [(0, .ref h_p0), (1, .int x1), (2, .int x2), (3, .int x3)] (w_R cI cZ h_p0 h_p0_m h_p0_d h_p0_fresh h_p0_young h_p0_dropped h_p0_released h_p0_owed h_p0_counted h_p0_inMemory h_p0_onDisk h_p0_thn mem dsk fresh young dropped released owed counted inMemory onDisk thn moved) := by
  obtain ⟨cf, hr, hlk, hK, hN, hA⟩ := cx
  have hx := cf.1
  have hb := cf.2.1
  have hown := cf.2.2.2.1
  have ht : ∀ w ∈ wA, w.before args s = true := fun w h => cf.2.2.2.2 w (List.mem_cons_of_mem _ h)
  intro n
  induction n with
  | zero => intro x1 x2 x3 young dropped mem dsk released owed counted h; cases (show (none : Option (Int32 × (Nat → Int32) × (Nat → Int32) × (Nat → Int32) × (Nat → Int32) × (Nat → Int32) × (Nat → Int32) × (Nat → Int32))) = some _ from h)
  | succ n ih =>
    intro x1 x2 x3 young dropped mem dsk released owed counted h H locs ls hl hP hD hS
    unfold s_R_flushTable_134 at h
    refine lv_iload_n hx hb d_R_flushTable_134 rfl (lv_at hl 3 rfl) ?_
    refine lv_sipush (v := (nI 288)) hx hb d_R_flushTable_135 (by decide) ?_
    refine lv_icmp_ge hx hb d_R_flushTable_138 rfl (fun hc => ?_) (fun hc => ?_)
    · rw [if_pos hc] at h
      refine lv_aload_n hx hb d_R_flushTable_201 rfl (lv_at hl 0 rfl) ?_
      obtain ⟨⟨dropped_202, mem_202, released_202, owed_202, counted_202⟩, h202, h⟩ := bd_some h
      dsimp only at h
      refine wk_Vv (As := []) (rest := []) (wc := (w_R cI cZ h_p0 h_p0_m h_p0_d h_p0_fresh h_p0_young h_p0_dropped h_p0_released h_p0_owed h_p0_counted h_p0_inMemory h_p0_onDisk h_p0_thn mem dsk fresh young dropped released owed counted inMemory onDisk thn moved)) (w1 := (w_R cI cZ h_p0 h_p0_m h_p0_d h_p0_fresh h_p0_young h_p0_dropped h_p0_released h_p0_owed h_p0_counted h_p0_inMemory h_p0_onDisk h_p0_thn mem_202 dsk fresh young dropped_202 released_202 owed_202 counted_202 inMemory onDisk thn moved)) (wr := []) (wz := (w_R cI cZ h_p0 h_p0_m h_p0_d h_p0_fresh h_p0_young h_p0_dropped h_p0_released h_p0_owed h_p0_counted h_p0_inMemory h_p0_onDisk h_p0_thn mem_202 dsk fresh young dropped_202 released_202 owed_202 counted_202 inMemory onDisk thn moved)) cf hK hN hA (c_R_settle l D cI cZ h_p0 h_p0_m h_p0_d h_p0_fresh h_p0_young h_p0_dropped h_p0_released h_p0_owed h_p0_counted h_p0_inMemory h_p0_onDisk h_p0_thn F mem dsk fresh young dropped released owed counted inMemory onDisk thn moved dropped_202 mem_202 released_202 owed_202 counted_202 h202) k_R_79 ⟨rfl, rfl, by decide, by decide⟩ 2 rfl rfl rfl hl hP hD hS [0, 1, 2, 3, 4, 5, 6, 7, 8, 9, 10, 11] [] [0, 1, 2, 3, 4, 5, 6, 7, 8, 9, 10, 11] rfl rfl rfl (by decide) rfl rfl rfl rfl rfl (Nat.le_of_ble_eq_true rfl) rfl d_R_flushTable_202 (fun H locs hP hD hS => ?_)
      refine lv_iload_n hx hb d_R_flushTable_205 rfl (lv_at hl 2 rfl) ?_
      cases h
      exact sc_iret cf hr hlk hK hP hD hS d_R_flushTable_206
    · rw [if_neg hc] at h
      refine lv_aload_n hx hb d_R_flushTable_141 rfl (lv_at hl 0 rfl) ?_
      refine va_get (D := D) (ci := 2) (v := .ref h_p0_m) (C := R_R) (T := F_R) (N := 12) hx hb ht in_R hown hK hP 0 rfl rfl 0 (by decide) (ht _ f_R_7) (fun _ h9 => h9) rfl d_R_flushTable_142 ?_
      refine lv_iload_n hx hb d_R_flushTable_145 rfl (lv_at hl 3 rfl) ?_
      refine lv_bipush (v := (nI 8)) hx hb d_R_flushTable_146 (by decide) ?_
      refine lv_idiv hx hb d_R_flushTable_148 (by decide) ?_
      refine lv_bipush (v := (nI 30)) hx hb d_R_flushTable_149 (by decide) ?_
      refine lv_imul hx hb d_R_flushTable_151 ?_
      refine lv_iload_n hx hb d_R_flushTable_152 rfl (lv_at hl 3 rfl) ?_
      refine lv_bipush (v := (nI 8)) hx hb d_R_flushTable_153 (by decide) ?_
      refine lv_irem hx hb d_R_flushTable_155 (by decide) ?_
      refine lv_iadd hx hb d_R_flushTable_156 ?_
      obtain ⟨hin, h⟩ := gr_some h
      refine va_iald hx hb hK hP 1 0 rfl rfl hin d_R_flushTable_157 ?_
      generalize mem (((x3 / (nI 8)) * (nI 30)) + (x3 - x3 / (nI 8) * (nI 8))).toNatClampNeg = v157 at h ⊢
      refine lv_istore (lv' := [(4, .int v157), (0, .ref h_p0), (1, .int x1), (2, .int x2), (3, .int x3)]) hx hb d_R_flushTable_158 hl (by decide) rfl (fun ls hl => ?_)
      refine lv_aload_n hx hb d_R_flushTable_160 rfl (lv_at hl 1 rfl) ?_
      refine va_get (D := D) (ci := 2) (v := .ref h_p0_young) (C := R_R) (T := F_R) (N := 12) hx hb ht in_R hown hK hP 0 rfl rfl 3 (by decide) (ht _ f_R_20) (fun _ h9 => h9) rfl d_R_flushTable_161 ?_
      refine lv_iload_n hx hb d_R_flushTable_164 rfl (lv_at hl 4 rfl) ?_
      refine lv_aload_n hx hb d_R_flushTable_165 rfl (lv_at hl 1 rfl) ?_
      refine va_get (D := D) (ci := 2) (v := .ref h_p0_young) (C := R_R) (T := F_R) (N := 12) hx hb ht in_R hown hK hP 0 rfl rfl 3 (by decide) (ht _ f_R_20) (fun _ h9 => h9) rfl d_R_flushTable_166 ?_
      refine lv_iload_n hx hb d_R_flushTable_169 rfl (lv_at hl 4 rfl) ?_
      obtain ⟨hin, h⟩ := gr_some h
      refine va_zald hx hb hK hP 4 1 rfl rfl hin d_R_flushTable_170 ?_
      generalize young x3.toNatClampNeg = v170 at h ⊢
      refine lv_if_eq hx hb d_R_flushTable_171 rfl (fun hc => ?_) (fun hc => ?_)
      · rw [if_pos hc] at h
        exact w_R_flushTable_193 h_p0 h_p0_m h_p0_d h_p0_fresh h_p0_young h_p0_dropped h_p0_released h_p0_owed h_p0_counted h_p0_inMemory h_p0_onDisk h_p0_thn F fresh inMemory onDisk thn moved young' dropped' mem' dsk' released' owed' counted' r _ ⟨cf, hr, hlk, hK, hN, hA⟩ ih x1 x2 x3 x3 young dropped mem dsk released owed counted h H locs ls (lv_sub hl [1, 2, 3, 4] rfl) hP hD hS
      · rw [if_neg hc] at h
        refine lv_iload hx hb d_R_flushTable_174 (lv_at hl 0 rfl) ?_
        refine lv_bipush (v := (nI 32)) hx hb d_R_flushTable_176 (by decide) ?_
        refine lv_irem hx hb d_R_flushTable_178 (by decide) ?_
        refine lv_bipush (v := (nI 6)) hx hb d_R_flushTable_179 (by decide) ?_
        refine lv_idiv hx hb d_R_flushTable_181 (by decide) ?_
        refine lv_iload_n hx hb d_R_flushTable_182 rfl (lv_at hl 2 rfl) ?_
        refine lv_bipush (v := (nI 12)) hx hb d_R_flushTable_183 (by decide) ?_
        refine lv_idiv hx hb d_R_flushTable_185 (by decide) ?_
        refine lv_icmp_eq hx hb d_R_flushTable_186 rfl (fun hc => ?_) (fun hc => ?_)
        · rw [if_pos hc] at h
          exact w_R_flushTable_193 h_p0 h_p0_m h_p0_d h_p0_fresh h_p0_young h_p0_dropped h_p0_released h_p0_owed h_p0_counted h_p0_inMemory h_p0_onDisk h_p0_thn F fresh inMemory onDisk thn moved young' dropped' mem' dsk' released' owed' counted' r _ ⟨cf, hr, hlk, hK, hN, hA⟩ ih x1 x2 x3 x3 young dropped mem dsk released owed counted h H locs ls (lv_sub hl [1, 2, 3, 4] rfl) hP hD hS
        · rw [if_neg hc] at h
          refine lv_iconst (v := (nI 1)) hx hb d_R_flushTable_189 (by decide) ?_
          refine lv_goto hx hb d_R_flushTable_190 rfl ?_
          exact w_R_flushTable_194 h_p0 h_p0_m h_p0_d h_p0_fresh h_p0_young h_p0_dropped h_p0_released h_p0_owed h_p0_counted h_p0_inMemory h_p0_onDisk h_p0_thn F fresh inMemory onDisk thn moved young' dropped' mem' dsk' released' owed' counted' r _ ⟨cf, hr, hlk, hK, hN, hA⟩ ih x1 x2 x3 x3 (nI 1) young dropped mem dsk released owed counted h H locs ls (lv_sub hl [1, 2, 3, 4] rfl) hP hD hS
set_option maxHeartbeats 4000000 in
set_option maxRecDepth 100000 in
theorem w_R_flushTable_125 {p : Program} {l : Launch} {e : Env} {s : State} {m : MethodId} {args : Array Value} {below : List Frame} {meth : Method} {c : Code} {D : va_G} {cI cZ : ClassId} {A : Nat → Prop} (h_p0 h_p0_m h_p0_d h_p0_fresh h_p0_young h_p0_dropped h_p0_released h_p0_owed h_p0_counted h_p0_inMemory h_p0_onDisk h_p0_thn : Nat) (F : Nat) (fresh : (Nat → Int32)) (inMemory : (Nat → Int32)) (onDisk : (Nat → Int32)) (thn : (Nat → Int32)) (moved : Int32) (young' : (Nat → Int32)) (dropped' : (Nat → Int32)) (mem' : (Nat → Int32)) (dsk' : (Nat → Int32)) (released' : (Nat → Int32)) (owed' : (Nat → Int32)) (counted' : (Nat → Int32)) (r : Int32) (k4 : Int32 → Int32 → Int32 → (Nat → Int32) → (Nat → Int32) → (Nat → Int32) → (Nat → Int32) → (Nat → Int32) → (Nat → Int32) → (Nat → Int32) → Option (Int32 × (Nat → Int32) × (Nat → Int32) × (Nat → Int32) × (Nat → Int32) × (Nat → Int32) × (Nat → Int32) × (Nat → Int32))) (cx : cx_ok p s m args meth c b_R_flushTable 6 o_R_flushTable "OrderedVolumeModel" (some .int) D cI cZ A) (h4 : (∀ (x1 : Int32) (x2 : Int32) (x3 : Int32) (young : (Nat → Int32)) (dropped : (Nat → Int32)) (mem : (Nat → Int32)) (dsk : (Nat → Int32)) (released : (Nat → Int32)) (owed : (Nat → Int32)) (counted : (Nat → Int32)), k4 x1 x2 x3 young dropped mem dsk released owed counted = some (r, young', dropped', mem', dsk', released', owed', counted') → wk_G p l e rm_R_flushTable s m args below meth c (sc_Qi below args s D cI cZ A (w_R cI cZ h_p0 h_p0_m h_p0_d h_p0_fresh h_p0_young h_p0_dropped h_p0_released h_p0_owed h_p0_counted h_p0_inMemory h_p0_onDisk h_p0_thn (mem') (dsk') fresh (young') (dropped') (released') (owed') (counted') inMemory onDisk thn moved) r) D A 6 4 [] [(0, .ref h_p0), (1, .int x1), (2, .int x2), (3, .int x3)] (w_R cI cZ h_p0 h_p0_m h_p0_d h_p0_fresh h_p0_young h_p0_dropped h_p0_released h_p0_owed h_p0_counted h_p0_inMemory h_p0_onDisk h_p0_thn mem dsk fresh young dropped released owed counted inMemory onDisk thn moved))) : ∀ (x1 : Int32) (x2 : Int32) (x3 : Int32) (t1 : Int32) (t2 : Int32) (young : (Nat → Int32)) (dropped : (Nat → Int32)) (mem : (Nat → Int32)) (dsk : (Nat → Int32)) (released : (Nat → Int32)) (owed : (Nat → Int32)) (counted : (Nat → Int32)), s_R_flushTable_125 F fresh k4 x1 x2 x3 t1 t2 young dropped mem dsk released owed counted = some (r, young', dropped', mem', dsk', released', owed', counted') → wk_G p l e rm_R_flushTable s m args below meth c (sc_Qi below args s D cI cZ A (w_R cI cZ h_p0 h_p0_m h_p0_d h_p0_fresh h_p0_young h_p0_dropped h_p0_released h_p0_owed h_p0_counted h_p0_inMemory h_p0_onDisk h_p0_thn (mem') (dsk') fresh (young') (dropped') (released') (owed') (counted') inMemory onDisk thn moved) r) D A 6 125 [.int t2, .int t1, .ref h_p0_d] [(0, .ref h_p0), (1, .int x1), (2, .int x2), (3, .int x3)] (w_R cI cZ h_p0 h_p0_m h_p0_d h_p0_fresh h_p0_young h_p0_dropped h_p0_released h_p0_owed h_p0_counted h_p0_inMemory h_p0_onDisk h_p0_thn mem dsk fresh young dropped released owed counted inMemory onDisk thn moved) := by
  obtain ⟨cf, hr, hlk, hK, hN, hA⟩ := cx
  have hx := cf.1
  have hb := cf.2.1
  have hown := cf.2.2.2.1
  have ht : ∀ w ∈ wA, w.before args s = true := fun w h => cf.2.2.2.2 w (List.mem_cons_of_mem _ h)
  intro x1 x2 x3 t1 t2 young dropped mem dsk released owed counted h H locs ls hl hP hD hS
  unfold s_R_flushTable_125 at h
  obtain ⟨hin, h⟩ := ga_some h
  refine va_iast hx hb hK hP hD hS 2 0 rfl rfl hin d_R_flushTable_125 (fun H locs hP hD hS => ?_)
  have hP : va_P D clA (w_R cI cZ h_p0 h_p0_m h_p0_d h_p0_fresh h_p0_young h_p0_dropped h_p0_released h_p0_owed h_p0_counted h_p0_inMemory h_p0_onDisk h_p0_thn mem (upd dsk t1.toNatClampNeg t2) fresh young dropped released owed counted inMemory onDisk thn moved) H := hP
  have hD : va_D A (w_R cI cZ h_p0 h_p0_m h_p0_d h_p0_fresh h_p0_young h_p0_dropped h_p0_released h_p0_owed h_p0_counted h_p0_inMemory h_p0_onDisk h_p0_thn mem (upd dsk t1.toNatClampNeg t2) fresh young dropped released owed counted inMemory onDisk thn moved) := hD
  refine lv_iinc (k := 3) (v := (x3 + (nI 1))) (lv' := [(3, .int (x3 + (nI 1))), (0, .ref h_p0), (1, .int x1), (2, .int x2)]) hx hb d_R_flushTable_126 hl rfl rfl (by decide) rfl (fun ls hl => ?_)
  refine lv_goto hx hb d_R_flushTable_129 rfl ?_
  exact h4 x1 x2 (x3 + (nI 1)) young dropped mem (upd dsk t1.toNatClampNeg t2) released owed counted h H locs ls (lv_sub hl [1, 2, 3, 0] rfl) hP hD hS
set_option maxHeartbeats 4000000 in
set_option maxRecDepth 100000 in
theorem w_R_flushTable_93 {p : Program} {l : Launch} {e : Env} {s : State} {m : MethodId} {args : Array Value} {below : List Frame} {meth : Method} {c : Code} {D : va_G} {cI cZ : ClassId} {A : Nat → Prop} (h_p0 h_p0_m h_p0_d h_p0_fresh h_p0_young h_p0_dropped h_p0_released h_p0_owed h_p0_counted h_p0_inMemory h_p0_onDisk h_p0_thn : Nat) (F : Nat) (fresh : (Nat → Int32)) (inMemory : (Nat → Int32)) (onDisk : (Nat → Int32)) (thn : (Nat → Int32)) (moved : Int32) (young' : (Nat → Int32)) (dropped' : (Nat → Int32)) (mem' : (Nat → Int32)) (dsk' : (Nat → Int32)) (released' : (Nat → Int32)) (owed' : (Nat → Int32)) (counted' : (Nat → Int32)) (r : Int32) (k4 : Int32 → Int32 → Int32 → (Nat → Int32) → (Nat → Int32) → (Nat → Int32) → (Nat → Int32) → (Nat → Int32) → (Nat → Int32) → (Nat → Int32) → Option (Int32 × (Nat → Int32) × (Nat → Int32) × (Nat → Int32) × (Nat → Int32) × (Nat → Int32) × (Nat → Int32) × (Nat → Int32))) (cx : cx_ok p s m args meth c b_R_flushTable 6 o_R_flushTable "OrderedVolumeModel" (some .int) D cI cZ A) (h4 : (∀ (x1 : Int32) (x2 : Int32) (x3 : Int32) (young : (Nat → Int32)) (dropped : (Nat → Int32)) (mem : (Nat → Int32)) (dsk : (Nat → Int32)) (released : (Nat → Int32)) (owed : (Nat → Int32)) (counted : (Nat → Int32)), k4 x1 x2 x3 young dropped mem dsk released owed counted = some (r, young', dropped', mem', dsk', released', owed', counted') → wk_G p l e rm_R_flushTable s m args below meth c (sc_Qi below args s D cI cZ A (w_R cI cZ h_p0 h_p0_m h_p0_d h_p0_fresh h_p0_young h_p0_dropped h_p0_released h_p0_owed h_p0_counted h_p0_inMemory h_p0_onDisk h_p0_thn (mem') (dsk') fresh (young') (dropped') (released') (owed') (counted') inMemory onDisk thn moved) r) D A 6 4 [] [(0, .ref h_p0), (1, .int x1), (2, .int x2), (3, .int x3)] (w_R cI cZ h_p0 h_p0_m h_p0_d h_p0_fresh h_p0_young h_p0_dropped h_p0_released h_p0_owed h_p0_counted h_p0_inMemory h_p0_onDisk h_p0_thn mem dsk fresh young dropped released owed counted inMemory onDisk thn moved))) : ∀ (x1 : Int32) (x3 : Int32) (x4 : Int32) (x5 : Int32) (t0 : Int32) (young : (Nat → Int32)) (dropped : (Nat → Int32)) (mem : (Nat → Int32)) (dsk : (Nat → Int32)) (released : (Nat → Int32)) (owed : (Nat → Int32)) (counted : (Nat → Int32)), s_R_flushTable_93 F fresh k4 x1 x3 x4 x5 t0 young dropped mem dsk released owed counted = some (r, young', dropped', mem', dsk', released', owed', counted') → wk_G p l e rm_R_flushTable s m args below meth c (sc_Qi below args s D cI cZ A (w_R cI cZ h_p0 h_p0_m h_p0_d h_p0_fresh h_p0_young h_p0_dropped h_p0_released h_p0_owed h_p0_counted h_p0_inMemory h_p0_onDisk h_p0_thn (mem') (dsk') fresh (young') (dropped') (released') (owed') (counted') inMemory onDisk thn moved) r) D A 6 93 [.int t0] [(0, .ref h_p0), (1, .int x1), (3, .int x3), (4, .int x4), (5, .int x5)] (w_R cI cZ h_p0 h_p0_m h_p0_d h_p0_fresh h_p0_young h_p0_dropped h_p0_released h_p0_owed h_p0_counted h_p0_inMemory h_p0_onDisk h_p0_thn mem dsk fresh young dropped released owed counted inMemory onDisk thn moved) := by
  obtain ⟨cf, hr, hlk, hK, hN, hA⟩ := cx
  have hx := cf.1
  have hb := cf.2.1
  have hown := cf.2.2.2.1
  have ht : ∀ w ∈ wA, w.before args s = true := fun w h => cf.2.2.2.2 w (List.mem_cons_of_mem _ h)
  intro x1 x3 x4 x5 t0 young dropped mem dsk released owed counted h H locs ls hl hP hD hS
  unfold s_R_flushTable_93 at h
  refine lv_istore_n (lv' := [(2, .int t0), (0, .ref h_p0), (1, .int x1), (3, .int x3), (4, .int x4), (5, .int x5)]) hx hb d_R_flushTable_93 rfl hl (by decide) rfl (fun ls hl => ?_)
  refine lv_aload_n hx hb d_R_flushTable_94 rfl (lv_at hl 1 rfl) ?_
  refine va_get (D := D) (ci := 2) (v := .ref h_p0_d) (C := R_R) (T := F_R) (N := 12) hx hb ht in_R hown hK hP 0 rfl rfl 1 (by decide) (ht _ f_R_13) (fun _ h9 => h9) rfl d_R_flushTable_95 ?_
  refine lv_bipush (v := (nI 30)) hx hb d_R_flushTable_98 (by decide) ?_
  refine lv_iload_n hx hb d_R_flushTable_100 rfl (lv_at hl 2 rfl) ?_
  refine lv_imul hx hb d_R_flushTable_101 ?_
  refine lv_iload_n hx hb d_R_flushTable_102 rfl (lv_at hl 3 rfl) ?_
  refine lv_iadd hx hb d_R_flushTable_103 ?_
  refine lv_iload hx hb d_R_flushTable_104 (lv_at hl 5 rfl) ?_
  refine lv_if_eq hx hb d_R_flushTable_106 rfl (fun hc => ?_) (fun hc => ?_)
  · rw [if_pos hc] at h
    refine lv_iload hx hb d_R_flushTable_123 (lv_at hl 4 rfl) ?_
    exact w_R_flushTable_125 h_p0 h_p0_m h_p0_d h_p0_fresh h_p0_young h_p0_dropped h_p0_released h_p0_owed h_p0_counted h_p0_inMemory h_p0_onDisk h_p0_thn F fresh inMemory onDisk thn moved young' dropped' mem' dsk' released' owed' counted' r _ ⟨cf, hr, hlk, hK, hN, hA⟩ h4 x1 t0 x3 (((nI 30) * x1) + x3) x4 young dropped mem dsk released owed counted h H locs ls (lv_sub hl [1, 2, 0, 3] rfl) hP hD hS
  · rw [if_neg hc] at h
    refine lv_aload_n hx hb d_R_flushTable_109 rfl (lv_at hl 1 rfl) ?_
    refine va_get (D := D) (ci := 2) (v := .ref h_p0_d) (C := R_R) (T := F_R) (N := 12) hx hb ht in_R hown hK hP 0 rfl rfl 1 (by decide) (ht _ f_R_13) (fun _ h9 => h9) rfl d_R_flushTable_110 ?_
    refine lv_bipush (v := (nI 30)) hx hb d_R_flushTable_113 (by decide) ?_
    refine lv_iload_n hx hb d_R_flushTable_115 rfl (lv_at hl 2 rfl) ?_
    refine lv_imul hx hb d_R_flushTable_116 ?_
    refine lv_iload_n hx hb d_R_flushTable_117 rfl (lv_at hl 3 rfl) ?_
    refine lv_iadd hx hb d_R_flushTable_118 ?_
    obtain ⟨hin, h⟩ := gr_some h
    refine va_iald hx hb hK hP 2 0 rfl rfl hin d_R_flushTable_119 ?_
    generalize dsk (((nI 30) * x1) + x3).toNatClampNeg = v119 at h ⊢
    refine lv_goto hx hb d_R_flushTable_120 rfl ?_
    exact w_R_flushTable_125 h_p0 h_p0_m h_p0_d h_p0_fresh h_p0_young h_p0_dropped h_p0_released h_p0_owed h_p0_counted h_p0_inMemory h_p0_onDisk h_p0_thn F fresh inMemory onDisk thn moved young' dropped' mem' dsk' released' owed' counted' r _ ⟨cf, hr, hlk, hK, hN, hA⟩ h4 x1 t0 x3 (((nI 30) * x1) + x3) v119 young dropped mem dsk released owed counted h H locs ls (lv_sub hl [1, 2, 0, 3] rfl) hP hD hS
set_option maxHeartbeats 4000000 in
set_option maxRecDepth 100000 in
theorem w_R_flushTable_79 {p : Program} {l : Launch} {e : Env} {s : State} {m : MethodId} {args : Array Value} {below : List Frame} {meth : Method} {c : Code} {D : va_G} {cI cZ : ClassId} {A : Nat → Prop} (h_p0 h_p0_m h_p0_d h_p0_fresh h_p0_young h_p0_dropped h_p0_released h_p0_owed h_p0_counted h_p0_inMemory h_p0_onDisk h_p0_thn : Nat) (F : Nat) (fresh : (Nat → Int32)) (inMemory : (Nat → Int32)) (onDisk : (Nat → Int32)) (thn : (Nat → Int32)) (moved : Int32) (young' : (Nat → Int32)) (dropped' : (Nat → Int32)) (mem' : (Nat → Int32)) (dsk' : (Nat → Int32)) (released' : (Nat → Int32)) (owed' : (Nat → Int32)) (counted' : (Nat → Int32)) (r : Int32) (k4 : Int32 → Int32 → Int32 → (Nat → Int32) → (Nat → Int32) → (Nat → Int32) → (Nat → Int32) → (Nat → Int32) → (Nat → Int32) → (Nat → Int32) → Option (Int32 × (Nat → Int32) × (Nat → Int32) × (Nat → Int32) × (Nat → Int32) × (Nat → Int32) × (Nat → Int32) × (Nat → Int32))) (cx : cx_ok p s m args meth c b_R_flushTable 6 o_R_flushTable "OrderedVolumeModel" (some .int) D cI cZ A) (h4 : (∀ (x1 : Int32) (x2 : Int32) (x3 : Int32) (young : (Nat → Int32)) (dropped : (Nat → Int32)) (mem : (Nat → Int32)) (dsk : (Nat → Int32)) (released : (Nat → Int32)) (owed : (Nat → Int32)) (counted : (Nat → Int32)), k4 x1 x2 x3 young dropped mem dsk released owed counted = some (r, young', dropped', mem', dsk', released', owed', counted') → wk_G p l e rm_R_flushTable s m args below meth c (sc_Qi below args s D cI cZ A (w_R cI cZ h_p0 h_p0_m h_p0_d h_p0_fresh h_p0_young h_p0_dropped h_p0_released h_p0_owed h_p0_counted h_p0_inMemory h_p0_onDisk h_p0_thn (mem') (dsk') fresh (young') (dropped') (released') (owed') (counted') inMemory onDisk thn moved) r) D A 6 4 [] [(0, .ref h_p0), (1, .int x1), (2, .int x2), (3, .int x3)] (w_R cI cZ h_p0 h_p0_m h_p0_d h_p0_fresh h_p0_young h_p0_dropped h_p0_released h_p0_owed h_p0_counted h_p0_inMemory h_p0_onDisk h_p0_thn mem dsk fresh young dropped released owed counted inMemory onDisk thn moved))) : ∀ (x1 : Int32) (x2 : Int32) (x3 : Int32) (x4 : Int32) (t0 : Int32) (young : (Nat → Int32)) (dropped : (Nat → Int32)) (mem : (Nat → Int32)) (dsk : (Nat → Int32)) (released : (Nat → Int32)) (owed : (Nat → Int32)) (counted : (Nat → Int32)), s_R_flushTable_79 F fresh k4 x1 x2 x3 x4 t0 young dropped mem dsk released owed counted = some (r, young', dropped', mem', dsk', released', owed', counted') → wk_G p l e rm_R_flushTable s m args below meth c (sc_Qi below args s D cI cZ A (w_R cI cZ h_p0 h_p0_m h_p0_d h_p0_fresh h_p0_young h_p0_dropped h_p0_released h_p0_owed h_p0_counted h_p0_inMemory h_p0_onDisk h_p0_thn (mem') (dsk') fresh (young') (dropped') (released') (owed') (counted') inMemory onDisk thn moved) r) D A 6 79 [.int t0] [(0, .ref h_p0), (1, .int x1), (2, .int x2), (3, .int x3), (4, .int x4)] (w_R cI cZ h_p0 h_p0_m h_p0_d h_p0_fresh h_p0_young h_p0_dropped h_p0_released h_p0_owed h_p0_counted h_p0_inMemory h_p0_onDisk h_p0_thn mem dsk fresh young dropped released owed counted inMemory onDisk thn moved) := by
  obtain ⟨cf, hr, hlk, hK, hN, hA⟩ := cx
  have hx := cf.1
  have hb := cf.2.1
  have hown := cf.2.2.2.1
  have ht : ∀ w ∈ wA, w.before args s = true := fun w h => cf.2.2.2.2 w (List.mem_cons_of_mem _ h)
  intro x1 x2 x3 x4 t0 young dropped mem dsk released owed counted h H locs ls hl hP hD hS
  unfold s_R_flushTable_79 at h
  refine lv_istore (lv' := [(5, .int t0), (0, .ref h_p0), (1, .int x1), (2, .int x2), (3, .int x3), (4, .int x4)]) hx hb d_R_flushTable_79 hl (by decide) rfl (fun ls hl => ?_)
  refine lv_iload hx hb d_R_flushTable_81 (lv_at hl 0 rfl) ?_
  refine lv_if_eq hx hb d_R_flushTable_83 rfl (fun hc => ?_) (fun hc => ?_)
  · rw [if_pos hc] at h
    refine lv_iload_n hx hb d_R_flushTable_92 rfl (lv_at hl 3 rfl) ?_
    exact w_R_flushTable_93 h_p0 h_p0_m h_p0_d h_p0_fresh h_p0_young h_p0_dropped h_p0_released h_p0_owed h_p0_counted h_p0_inMemory h_p0_onDisk h_p0_thn F fresh inMemory onDisk thn moved young' dropped' mem' dsk' released' owed' counted' r _ ⟨cf, hr, hlk, hK, hN, hA⟩ h4 x1 x3 x4 t0 x2 young dropped mem dsk released owed counted h H locs ls (lv_sub hl [1, 2, 4, 5, 0] rfl) hP hD hS
  · rw [if_neg hc] at h
    refine lv_iload_n hx hb d_R_flushTable_86 rfl (lv_at hl 3 rfl) ?_
    refine lv_iconst (v := (nI 1)) hx hb d_R_flushTable_87 (by decide) ?_
    refine lv_iadd hx hb d_R_flushTable_88 ?_
    refine lv_goto hx hb d_R_flushTable_89 rfl ?_
    exact w_R_flushTable_93 h_p0 h_p0_m h_p0_d h_p0_fresh h_p0_young h_p0_dropped h_p0_released h_p0_owed h_p0_counted h_p0_inMemory h_p0_onDisk h_p0_thn F fresh inMemory onDisk thn moved young' dropped' mem' dsk' released' owed' counted' r _ ⟨cf, hr, hlk, hK, hN, hA⟩ h4 x1 x3 x4 t0 (x2 + (nI 1)) young dropped mem dsk released owed counted h H locs ls (lv_sub hl [1, 2, 4, 5, 0] rfl) hP hD hS
set_option maxHeartbeats 4000000 in
set_option maxRecDepth 100000 in
theorem w_R_flushTable_78 {p : Program} {l : Launch} {e : Env} {s : State} {m : MethodId} {args : Array Value} {below : List Frame} {meth : Method} {c : Code} {D : va_G} {cI cZ : ClassId} {A : Nat → Prop} (h_p0 h_p0_m h_p0_d h_p0_fresh h_p0_young h_p0_dropped h_p0_released h_p0_owed h_p0_counted h_p0_inMemory h_p0_onDisk h_p0_thn : Nat) (F : Nat) (fresh : (Nat → Int32)) (inMemory : (Nat → Int32)) (onDisk : (Nat → Int32)) (thn : (Nat → Int32)) (moved : Int32) (young' : (Nat → Int32)) (dropped' : (Nat → Int32)) (mem' : (Nat → Int32)) (dsk' : (Nat → Int32)) (released' : (Nat → Int32)) (owed' : (Nat → Int32)) (counted' : (Nat → Int32)) (r : Int32) (k4 : Int32 → Int32 → Int32 → (Nat → Int32) → (Nat → Int32) → (Nat → Int32) → (Nat → Int32) → (Nat → Int32) → (Nat → Int32) → (Nat → Int32) → Option (Int32 × (Nat → Int32) × (Nat → Int32) × (Nat → Int32) × (Nat → Int32) × (Nat → Int32) × (Nat → Int32) × (Nat → Int32))) (cx : cx_ok p s m args meth c b_R_flushTable 6 o_R_flushTable "OrderedVolumeModel" (some .int) D cI cZ A) (h4 : (∀ (x1 : Int32) (x2 : Int32) (x3 : Int32) (young : (Nat → Int32)) (dropped : (Nat → Int32)) (mem : (Nat → Int32)) (dsk : (Nat → Int32)) (released : (Nat → Int32)) (owed : (Nat → Int32)) (counted : (Nat → Int32)), k4 x1 x2 x3 young dropped mem dsk released owed counted = some (r, young', dropped', mem', dsk', released', owed', counted') → wk_G p l e rm_R_flushTable s m args below meth c (sc_Qi below args s D cI cZ A (w_R cI cZ h_p0 h_p0_m h_p0_d h_p0_fresh h_p0_young h_p0_dropped h_p0_released h_p0_owed h_p0_counted h_p0_inMemory h_p0_onDisk h_p0_thn (mem') (dsk') fresh (young') (dropped') (released') (owed') (counted') inMemory onDisk thn moved) r) D A 6 4 [] [(0, .ref h_p0), (1, .int x1), (2, .int x2), (3, .int x3)] (w_R cI cZ h_p0 h_p0_m h_p0_d h_p0_fresh h_p0_young h_p0_dropped h_p0_released h_p0_owed h_p0_counted h_p0_inMemory h_p0_onDisk h_p0_thn mem dsk fresh young dropped released owed counted inMemory onDisk thn moved))) : ∀ (x1 : Int32) (x2 : Int32) (x3 : Int32) (x4 : Int32) (young : (Nat → Int32)) (dropped : (Nat → Int32)) (mem : (Nat → Int32)) (dsk : (Nat → Int32)) (released : (Nat → Int32)) (owed : (Nat → Int32)) (counted : (Nat → Int32)), s_R_flushTable_78 F fresh k4 x1 x2 x3 x4 young dropped mem dsk released owed counted = some (r, young', dropped', mem', dsk', released', owed', counted') → wk_G p l e rm_R_flushTable s m args below meth c (sc_Qi below args s D cI cZ A (w_R cI cZ h_p0 h_p0_m h_p0_d h_p0_fresh h_p0_young h_p0_dropped h_p0_released h_p0_owed h_p0_counted h_p0_inMemory h_p0_onDisk h_p0_thn (mem') (dsk') fresh (young') (dropped') (released') (owed') (counted') inMemory onDisk thn moved) r) D A 6 78 [] [(0, .ref h_p0), (1, .int x1), (2, .int x2), (3, .int x3), (4, .int x4)] (w_R cI cZ h_p0 h_p0_m h_p0_d h_p0_fresh h_p0_young h_p0_dropped h_p0_released h_p0_owed h_p0_counted h_p0_inMemory h_p0_onDisk h_p0_thn mem dsk fresh young dropped released owed counted inMemory onDisk thn moved) := by
  obtain ⟨cf, hr, hlk, hK, hN, hA⟩ := cx
  have hx := cf.1
  have hb := cf.2.1
  have hown := cf.2.2.2.1
  have ht : ∀ w ∈ wA, w.before args s = true := fun w h => cf.2.2.2.2 w (List.mem_cons_of_mem _ h)
  intro x1 x2 x3 x4 young dropped mem dsk released owed counted h H locs ls hl hP hD hS
  unfold s_R_flushTable_78 at h
  refine lv_iconst (v := (nI 0)) hx hb d_R_flushTable_78 (by decide) ?_
  exact w_R_flushTable_79 h_p0 h_p0_m h_p0_d h_p0_fresh h_p0_young h_p0_dropped h_p0_released h_p0_owed h_p0_counted h_p0_inMemory h_p0_onDisk h_p0_thn F fresh inMemory onDisk thn moved young' dropped' mem' dsk' released' owed' counted' r _ ⟨cf, hr, hlk, hK, hN, hA⟩ h4 x1 x2 x3 x4 (nI 0) young dropped mem dsk released owed counted h H locs ls (lv_sub hl [0, 1, 2, 3, 4] rfl) hP hD hS
set_option maxHeartbeats 4000000 in
set_option maxRecDepth 100000 in
theorem w_R_flushTable_74 {p : Program} {l : Launch} {e : Env} {s : State} {m : MethodId} {args : Array Value} {below : List Frame} {meth : Method} {c : Code} {D : va_G} {cI cZ : ClassId} {A : Nat → Prop} (h_p0 h_p0_m h_p0_d h_p0_fresh h_p0_young h_p0_dropped h_p0_released h_p0_owed h_p0_counted h_p0_inMemory h_p0_onDisk h_p0_thn : Nat) (F : Nat) (fresh : (Nat → Int32)) (inMemory : (Nat → Int32)) (onDisk : (Nat → Int32)) (thn : (Nat → Int32)) (moved : Int32) (young' : (Nat → Int32)) (dropped' : (Nat → Int32)) (mem' : (Nat → Int32)) (dsk' : (Nat → Int32)) (released' : (Nat → Int32)) (owed' : (Nat → Int32)) (counted' : (Nat → Int32)) (r : Int32) (k4 : Int32 → Int32 → Int32 → (Nat → Int32) → (Nat → Int32) → (Nat → Int32) → (Nat → Int32) → (Nat → Int32) → (Nat → Int32) → (Nat → Int32) → Option (Int32 × (Nat → Int32) × (Nat → Int32) × (Nat → Int32) × (Nat → Int32) × (Nat → Int32) × (Nat → Int32) × (Nat → Int32))) (cx : cx_ok p s m args meth c b_R_flushTable 6 o_R_flushTable "OrderedVolumeModel" (some .int) D cI cZ A) (h4 : (∀ (x1 : Int32) (x2 : Int32) (x3 : Int32) (young : (Nat → Int32)) (dropped : (Nat → Int32)) (mem : (Nat → Int32)) (dsk : (Nat → Int32)) (released : (Nat → Int32)) (owed : (Nat → Int32)) (counted : (Nat → Int32)), k4 x1 x2 x3 young dropped mem dsk released owed counted = some (r, young', dropped', mem', dsk', released', owed', counted') → wk_G p l e rm_R_flushTable s m args below meth c (sc_Qi below args s D cI cZ A (w_R cI cZ h_p0 h_p0_m h_p0_d h_p0_fresh h_p0_young h_p0_dropped h_p0_released h_p0_owed h_p0_counted h_p0_inMemory h_p0_onDisk h_p0_thn (mem') (dsk') fresh (young') (dropped') (released') (owed') (counted') inMemory onDisk thn moved) r) D A 6 4 [] [(0, .ref h_p0), (1, .int x1), (2, .int x2), (3, .int x3)] (w_R cI cZ h_p0 h_p0_m h_p0_d h_p0_fresh h_p0_young h_p0_dropped h_p0_released h_p0_owed h_p0_counted h_p0_inMemory h_p0_onDisk h_p0_thn mem dsk fresh young dropped released owed counted inMemory onDisk thn moved))) : ∀ (x1 : Int32) (x2 : Int32) (x3 : Int32) (x4 : Int32) (young : (Nat → Int32)) (dropped : (Nat → Int32)) (mem : (Nat → Int32)) (dsk : (Nat → Int32)) (released : (Nat → Int32)) (owed : (Nat → Int32)) (counted : (Nat → Int32)), s_R_flushTable_74 F fresh k4 x1 x2 x3 x4 young dropped mem dsk released owed counted = some (r, young', dropped', mem', dsk', released', owed', counted') → wk_G p l e rm_R_flushTable s m args below meth c (sc_Qi below args s D cI cZ A (w_R cI cZ h_p0 h_p0_m h_p0_d h_p0_fresh h_p0_young h_p0_dropped h_p0_released h_p0_owed h_p0_counted h_p0_inMemory h_p0_onDisk h_p0_thn (mem') (dsk') fresh (young') (dropped') (released') (owed') (counted') inMemory onDisk thn moved) r) D A 6 74 [] [(0, .ref h_p0), (1, .int x1), (2, .int x2), (3, .int x3), (4, .int x4)] (w_R cI cZ h_p0 h_p0_m h_p0_d h_p0_fresh h_p0_young h_p0_dropped h_p0_released h_p0_owed h_p0_counted h_p0_inMemory h_p0_onDisk h_p0_thn mem dsk fresh young dropped released owed counted inMemory onDisk thn moved) := by
  obtain ⟨cf, hr, hlk, hK, hN, hA⟩ := cx
  have hx := cf.1
  have hb := cf.2.1
  have hown := cf.2.2.2.1
  have ht : ∀ w ∈ wA, w.before args s = true := fun w h => cf.2.2.2.2 w (List.mem_cons_of_mem _ h)
  intro x1 x2 x3 x4 young dropped mem dsk released owed counted h H locs ls hl hP hD hS
  unfold s_R_flushTable_74 at h
  refine lv_iconst (v := (nI 1)) hx hb d_R_flushTable_74 (by decide) ?_
  refine lv_goto hx hb d_R_flushTable_75 rfl ?_
  exact w_R_flushTable_79 h_p0 h_p0_m h_p0_d h_p0_fresh h_p0_young h_p0_dropped h_p0_released h_p0_owed h_p0_counted h_p0_inMemory h_p0_onDisk h_p0_thn F fresh inMemory onDisk thn moved young' dropped' mem' dsk' released' owed' counted' r _ ⟨cf, hr, hlk, hK, hN, hA⟩ h4 x1 x2 x3 x4 (nI 1) young dropped mem dsk released owed counted h H locs ls (lv_sub hl [0, 1, 2, 3, 4] rfl) hP hD hS
set_option maxHeartbeats 4000000 in
set_option maxRecDepth 100000 in
theorem w_R_flushTable_4 {p : Program} {l : Launch} {e : Env} {s : State} {m : MethodId} {args : Array Value} {below : List Frame} {meth : Method} {c : Code} {D : va_G} {cI cZ : ClassId} {A : Nat → Prop} (h_p0 h_p0_m h_p0_d h_p0_fresh h_p0_young h_p0_dropped h_p0_released h_p0_owed h_p0_counted h_p0_inMemory h_p0_onDisk h_p0_thn : Nat) (F : Nat) (fresh : (Nat → Int32)) (inMemory : (Nat → Int32)) (onDisk : (Nat → Int32)) (thn : (Nat → Int32)) (moved : Int32) (young' : (Nat → Int32)) (dropped' : (Nat → Int32)) (mem' : (Nat → Int32)) (dsk' : (Nat → Int32)) (released' : (Nat → Int32)) (owed' : (Nat → Int32)) (counted' : (Nat → Int32)) (r : Int32) (cx : cx_ok p s m args meth c b_R_flushTable 6 o_R_flushTable "OrderedVolumeModel" (some .int) D cI cZ A) : ∀ (n : Nat) (x1 : Int32) (x2 : Int32) (x3 : Int32) (young : (Nat → Int32)) (dropped : (Nat → Int32)) (mem : (Nat → Int32)) (dsk : (Nat → Int32)) (released : (Nat → Int32)) (owed : (Nat → Int32)) (counted : (Nat → Int32)), s_R_flushTable_4 F fresh n x1 x2 x3 young dropped mem dsk released owed counted = some (r, young', dropped', mem', dsk', released', owed', counted') → wk_G p l e rm_R_flushTable s m args below meth c (sc_Qi below args s D cI cZ A (w_R cI cZ h_p0 h_p0_m h_p0_d h_p0_fresh h_p0_young h_p0_dropped h_p0_released h_p0_owed h_p0_counted h_p0_inMemory h_p0_onDisk h_p0_thn (mem') (dsk') fresh (young') (dropped') (released') (owed') (counted') inMemory onDisk thn moved) r) D A 6 4 [] [(0, .ref h_p0), (1, .int x1), (2, .int x2), (3, .int x3)] (w_R cI cZ h_p0 h_p0_m h_p0_d h_p0_fresh h_p0_young h_p0_dropped h_p0_released h_p0_owed h_p0_counted h_p0_inMemory h_p0_onDisk h_p0_thn mem dsk fresh young dropped released owed counted inMemory onDisk thn moved) := by
  obtain ⟨cf, hr, hlk, hK, hN, hA⟩ := cx
  have hx := cf.1
  have hb := cf.2.1
  have hown := cf.2.2.2.1
  have ht : ∀ w ∈ wA, w.before args s = true := fun w h => cf.2.2.2.2 w (List.mem_cons_of_mem _ h)
  intro n
  induction n with
  | zero => intro x1 x2 x3 young dropped mem dsk released owed counted h; cases (show (none : Option (Int32 × (Nat → Int32) × (Nat → Int32) × (Nat → Int32) × (Nat → Int32) × (Nat → Int32) × (Nat → Int32) × (Nat → Int32))) = some _ from h)
  | succ n ih =>
    intro x1 x2 x3 young dropped mem dsk released owed counted h H locs ls hl hP hD hS
    unfold s_R_flushTable_4 at h
    refine lv_iload_n hx hb d_R_flushTable_4 rfl (lv_at hl 3 rfl) ?_
    refine lv_bipush (v := (nI 30)) hx hb d_R_flushTable_5 (by decide) ?_
    refine lv_icmp_ge hx hb d_R_flushTable_7 rfl (fun hc => ?_) (fun hc => ?_)
    · rw [if_pos hc] at h
      refine lv_iconst (v := (nI 0)) hx hb d_R_flushTable_132 (by decide) ?_
      refine lv_istore_n (lv' := [(3, .int (nI 0)), (0, .ref h_p0), (1, .int x1), (2, .int x2)]) hx hb d_R_flushTable_133 rfl hl (by decide) rfl (fun ls hl => ?_)
      exact w_R_flushTable_134 h_p0 h_p0_m h_p0_d h_p0_fresh h_p0_young h_p0_dropped h_p0_released h_p0_owed h_p0_counted h_p0_inMemory h_p0_onDisk h_p0_thn F fresh inMemory onDisk thn moved young' dropped' mem' dsk' released' owed' counted' r ⟨cf, hr, hlk, hK, hN, hA⟩ F x1 x2 (nI 0) young dropped mem dsk released owed counted h H locs ls (lv_sub hl [1, 2, 3, 0] rfl) hP hD hS
    · rw [if_neg hc] at h
      refine lv_aload_n hx hb d_R_flushTable_10 rfl (lv_at hl 0 rfl) ?_
      refine va_get (D := D) (ci := 2) (v := .ref h_p0_m) (C := R_R) (T := F_R) (N := 12) hx hb ht in_R hown hK hP 0 rfl rfl 0 (by decide) (ht _ f_R_7) (fun _ h9 => h9) rfl d_R_flushTable_11 ?_
      refine lv_bipush (v := (nI 30)) hx hb d_R_flushTable_14 (by decide) ?_
      refine lv_iload_n hx hb d_R_flushTable_16 rfl (lv_at hl 1 rfl) ?_
      refine lv_imul hx hb d_R_flushTable_17 ?_
      refine lv_iload_n hx hb d_R_flushTable_18 rfl (lv_at hl 3 rfl) ?_
      refine lv_iadd hx hb d_R_flushTable_19 ?_
      obtain ⟨hin, h⟩ := gr_some h
      refine va_iald hx hb hK hP 1 0 rfl rfl hin d_R_flushTable_20 ?_
      generalize mem (((nI 30) * x1) + x3).toNatClampNeg = v20 at h ⊢
      refine lv_istore (lv' := [(4, .int v20), (0, .ref h_p0), (1, .int x1), (2, .int x2), (3, .int x3)]) hx hb d_R_flushTable_21 hl (by decide) rfl (fun ls hl => ?_)
      refine lv_iload_n hx hb d_R_flushTable_23 rfl (lv_at hl 4 rfl) ?_
      refine lv_iconst (v := (nI 5)) hx hb d_R_flushTable_24 (by decide) ?_
      refine lv_irem hx hb d_R_flushTable_25 (by decide) ?_
      refine lv_iconst (v := (nI 1)) hx hb d_R_flushTable_26 (by decide) ?_
      refine lv_icmp_le hx hb d_R_flushTable_27 rfl (fun hc => ?_) (fun hc => ?_)
      · rw [if_pos hc] at h
        exact w_R_flushTable_78 h_p0 h_p0_m h_p0_d h_p0_fresh h_p0_young h_p0_dropped h_p0_released h_p0_owed h_p0_counted h_p0_inMemory h_p0_onDisk h_p0_thn F fresh inMemory onDisk thn moved young' dropped' mem' dsk' released' owed' counted' r _ ⟨cf, hr, hlk, hK, hN, hA⟩ ih x1 x2 x3 v20 young dropped mem dsk released owed counted h H locs ls (lv_sub hl [1, 2, 3, 4, 0] rfl) hP hD hS
      · rw [if_neg hc] at h
        refine lv_iload hx hb d_R_flushTable_30 (lv_at hl 0 rfl) ?_
        refine lv_if_eq hx hb d_R_flushTable_32 rfl (fun hc => ?_) (fun hc => ?_)
        · rw [if_pos hc] at h
          exact w_R_flushTable_78 h_p0 h_p0_m h_p0_d h_p0_fresh h_p0_young h_p0_dropped h_p0_released h_p0_owed h_p0_counted h_p0_inMemory h_p0_onDisk h_p0_thn F fresh inMemory onDisk thn moved young' dropped' mem' dsk' released' owed' counted' r _ ⟨cf, hr, hlk, hK, hN, hA⟩ ih x1 x2 x3 v20 young dropped mem dsk released owed counted h H locs ls (lv_sub hl [1, 2, 3, 4, 0] rfl) hP hD hS
        · rw [if_neg hc] at h
          refine lv_iload hx hb d_R_flushTable_35 (lv_at hl 0 rfl) ?_
          refine lv_aload_n hx hb d_R_flushTable_37 rfl (lv_at hl 1 rfl) ?_
          refine va_get (D := D) (ci := 2) (v := .ref h_p0_d) (C := R_R) (T := F_R) (N := 12) hx hb ht in_R hown hK hP 0 rfl rfl 1 (by decide) (ht _ f_R_13) (fun _ h9 => h9) rfl d_R_flushTable_38 ?_
          refine lv_bipush (v := (nI 30)) hx hb d_R_flushTable_41 (by decide) ?_
          refine lv_iload_n hx hb d_R_flushTable_43 rfl (lv_at hl 2 rfl) ?_
          refine lv_imul hx hb d_R_flushTable_44 ?_
          refine lv_iload_n hx hb d_R_flushTable_45 rfl (lv_at hl 4 rfl) ?_
          refine lv_iadd hx hb d_R_flushTable_46 ?_
          obtain ⟨hin, h⟩ := gr_some h
          refine va_iald hx hb hK hP 2 0 rfl rfl hin d_R_flushTable_47 ?_
          generalize dsk (((nI 30) * x1) + x3).toNatClampNeg = v47 at h ⊢
          refine lv_icmp_eq hx hb d_R_flushTable_48 rfl (fun hc => ?_) (fun hc => ?_)
          · rw [if_pos hc] at h
            exact w_R_flushTable_78 h_p0 h_p0_m h_p0_d h_p0_fresh h_p0_young h_p0_dropped h_p0_released h_p0_owed h_p0_counted h_p0_inMemory h_p0_onDisk h_p0_thn F fresh inMemory onDisk thn moved young' dropped' mem' dsk' released' owed' counted' r _ ⟨cf, hr, hlk, hK, hN, hA⟩ ih x1 x2 x3 v20 young dropped mem dsk released owed counted h H locs ls (lv_sub hl [1, 2, 3, 4, 0] rfl) hP hD hS
          · rw [if_neg hc] at h
            refine lv_aload_n hx hb d_R_flushTable_51 rfl (lv_at hl 1 rfl) ?_
            refine va_get (D := D) (ci := 2) (v := .ref h_p0_fresh) (C := R_R) (T := F_R) (N := 12) hx hb ht in_R hown hK hP 0 rfl rfl 2 (by decide) (ht _ f_R_16) (fun _ h9 => h9) rfl d_R_flushTable_52 ?_
            refine lv_iload hx hb d_R_flushTable_55 (lv_at hl 0 rfl) ?_
            obtain ⟨hin, h⟩ := gr_some h
            refine va_zald hx hb hK hP 3 1 rfl rfl hin d_R_flushTable_57 ?_
            generalize fresh v20.toNatClampNeg = v57 at h ⊢
            refine lv_if_ne hx hb d_R_flushTable_58 rfl (fun hc => ?_) (fun hc => ?_)
            · rw [if_neg hc] at h
              exact w_R_flushTable_74 h_p0 h_p0_m h_p0_d h_p0_fresh h_p0_young h_p0_dropped h_p0_released h_p0_owed h_p0_counted h_p0_inMemory h_p0_onDisk h_p0_thn F fresh inMemory onDisk thn moved young' dropped' mem' dsk' released' owed' counted' r _ ⟨cf, hr, hlk, hK, hN, hA⟩ ih x1 x2 x3 v20 young dropped mem dsk released owed counted h H locs ls (lv_sub hl [1, 2, 3, 4, 0] rfl) hP hD hS
            · rw [if_pos hc] at h
              refine lv_aload_n hx hb d_R_flushTable_61 rfl (lv_at hl 1 rfl) ?_
              refine va_get (D := D) (ci := 2) (v := .ref h_p0_d) (C := R_R) (T := F_R) (N := 12) hx hb ht in_R hown hK hP 0 rfl rfl 1 (by decide) (ht _ f_R_13) (fun _ h9 => h9) rfl d_R_flushTable_62 ?_
              refine lv_iload hx hb d_R_flushTable_65 (lv_at hl 0 rfl) ?_
              obtain ⟨r67, h67, h⟩ := bd_some h
              refine wk_Si (As := [.int v20]) (rest := [.ref h_p0_d]) (wc := []) (w1 := []) (wr := [(h_p0, .inr (2, [.ref h_p0_m, .ref h_p0_d, .ref h_p0_fresh, .ref h_p0_young, .ref h_p0_dropped, .ref h_p0_released, .ref h_p0_owed, .ref h_p0_counted, .ref h_p0_inMemory, .ref h_p0_onDisk, .ref h_p0_thn, .int moved])), (h_p0_m, .inl (cI, 1080, .inl mem)), (h_p0_d, .inl (cI, 1080, .inl dsk)), (h_p0_fresh, .inl (cZ, 36, .inl fresh)), (h_p0_young, .inl (cZ, 288, .inl young)), (h_p0_dropped, .inl (cI, 36, .inl dropped)), (h_p0_released, .inl (cZ, 18, .inl released)), (h_p0_owed, .inl (cI, 18, .inl owed)), (h_p0_counted, .inl (cI, 18, .inl counted)), (h_p0_inMemory, .inl (cZ, 18, .inl inMemory)), (h_p0_onDisk, .inl (cZ, 18, .inl onDisk)), (h_p0_thn, .inl (cZ, 18, .inl thn))]) (wz := (w_R cI cZ h_p0 h_p0_m h_p0_d h_p0_fresh h_p0_young h_p0_dropped h_p0_released h_p0_owed h_p0_counted h_p0_inMemory h_p0_onDisk h_p0_thn mem dsk fresh young dropped released owed counted inMemory onDisk thn moved)) cf hK hN hA (c_R_markOfBlock l D cI cZ 0 v20 r67 h67) k_R_52 ⟨rfl, rfl, by decide, by decide⟩ hl hP hD hS [] [0, 1, 2, 3, 4, 5, 6, 7, 8, 9, 10, 11] [0, 1, 2, 3, 4, 5, 6, 7, 8, 9, 10, 11] rfl rfl rfl (by decide) rfl rfl rfl rfl rfl (Nat.le_of_ble_eq_true rfl) rfl d_R_flushTable_67 (fun H locs hP hD hS => ?_)
              obtain ⟨hin, h⟩ := gr_some h
              refine va_iald hx hb hK hP 2 0 rfl rfl hin d_R_flushTable_70 ?_
              generalize dsk r67.toNatClampNeg = v70 at h ⊢
              refine lv_if_ne hx hb d_R_flushTable_71 rfl (fun hc => ?_) (fun hc => ?_)
              · rw [if_neg hc] at h
                exact w_R_flushTable_78 h_p0 h_p0_m h_p0_d h_p0_fresh h_p0_young h_p0_dropped h_p0_released h_p0_owed h_p0_counted h_p0_inMemory h_p0_onDisk h_p0_thn F fresh inMemory onDisk thn moved young' dropped' mem' dsk' released' owed' counted' r _ ⟨cf, hr, hlk, hK, hN, hA⟩ ih x1 x2 x3 v20 young dropped mem dsk released owed counted h H locs ls (lv_sub hl [1, 2, 3, 4, 0] rfl) hP hD hS
              · rw [if_pos hc] at h
                exact w_R_flushTable_74 h_p0 h_p0_m h_p0_d h_p0_fresh h_p0_young h_p0_dropped h_p0_released h_p0_owed h_p0_counted h_p0_inMemory h_p0_onDisk h_p0_thn F fresh inMemory onDisk thn moved young' dropped' mem' dsk' released' owed' counted' r _ ⟨cf, hr, hlk, hK, hN, hA⟩ ih x1 x2 x3 v20 young dropped mem dsk released owed counted h H locs ls (lv_sub hl [1, 2, 3, 4, 0] rfl) hP hD hS
set_option maxHeartbeats 4000000 in
set_option maxRecDepth 100000 in
theorem c_R_flushTable (l : Launch) (D : va_G) (cI cZ : ClassId) (h_p0 h_p0_m h_p0_d h_p0_fresh h_p0_young h_p0_dropped h_p0_released h_p0_owed h_p0_counted h_p0_inMemory h_p0_onDisk h_p0_thn : Nat) (F : Nat) (mem : (Nat → Int32)) (dsk : (Nat → Int32)) (fresh : (Nat → Int32)) (young : (Nat → Int32)) (dropped : (Nat → Int32)) (released : (Nat → Int32)) (owed : (Nat → Int32)) (counted : (Nat → Int32)) (inMemory : (Nat → Int32)) (onDisk : (Nat → Int32)) (thn : (Nat → Int32)) (moved : Int32) (young' : (Nat → Int32)) (dropped' : (Nat → Int32)) (mem' : (Nat → Int32)) (dsk' : (Nat → Int32)) (released' : (Nat → Int32)) (owed' : (Nat → Int32)) (counted' : (Nat → Int32)) (x1 : Int32) (r : Int32) (h : s_R_flushTable F fresh x1 young dropped mem dsk released owed counted = some (r, young', dropped', mem', dsk', released', owed', counted')) : sc_i l y_R_flushTable (o_R_flushTable :: wA) rm_R_flushTable D cI cZ [.ref h_p0, .int x1] (w_R cI cZ h_p0 h_p0_m h_p0_d h_p0_fresh h_p0_young h_p0_dropped h_p0_released h_p0_owed h_p0_counted h_p0_inMemory h_p0_onDisk h_p0_thn mem dsk fresh young dropped released owed counted inMemory onDisk thn moved) (w_R cI cZ h_p0 h_p0_m h_p0_d h_p0_fresh h_p0_young h_p0_dropped h_p0_released h_p0_owed h_p0_counted h_p0_inMemory h_p0_onDisk h_p0_thn (mem') (dsk') fresh (young') (dropped') (released') (owed') (counted') inMemory onDisk thn moved) r := by
  refine sc_i_of (cc := b_R_flushTable) (maxL := 6) (ret := (some .int)) (by decide) rfl (Nat.le_of_ble_eq_true rfl) ?_
  intro p e s m below meth c A cf hr hlk hK hN hA H locs ls hl hP hD hS
  have hx := cf.1
  have hb := cf.2.1
  have hown := cf.2.2.2.1
  have ht : ∀ w ∈ wA, w.before _ s = true := fun w h => cf.2.2.2.2 w (List.mem_cons_of_mem _ h)
  unfold s_R_flushTable at h
  have hl : lv_has ls 6 [(0, .ref h_p0), (1, .int x1)] := hl
  refine lv_iconst (v := (nI 0)) hx hb d_R_flushTable_0 (by decide) ?_
  refine lv_istore_n (lv' := [(2, .int (nI 0)), (0, .ref h_p0), (1, .int x1)]) hx hb d_R_flushTable_1 rfl hl (by decide) rfl (fun ls hl => ?_)
  refine lv_iconst (v := (nI 0)) hx hb d_R_flushTable_2 (by decide) ?_
  refine lv_istore_n (lv' := [(3, .int (nI 0)), (2, .int (nI 0)), (0, .ref h_p0), (1, .int x1)]) hx hb d_R_flushTable_3 rfl hl (by decide) rfl (fun ls hl => ?_)
  exact w_R_flushTable_4 h_p0 h_p0_m h_p0_d h_p0_fresh h_p0_young h_p0_dropped h_p0_released h_p0_owed h_p0_counted h_p0_inMemory h_p0_onDisk h_p0_thn F fresh inMemory onDisk thn moved young' dropped' mem' dsk' released' owed' counted' r ⟨cf, hr, hlk, hK, hN, hA⟩ F x1 (nI 0) (nI 0) young dropped mem dsk released owed counted h H locs ls (lv_sub hl [2, 3, 1, 0] rfl) hP hD hS
set_option maxHeartbeats 4000000 in
set_option maxRecDepth 100000 in
theorem w_R_early_68 {p : Program} {l : Launch} {e : Env} {s : State} {m : MethodId} {args : Array Value} {below : List Frame} {meth : Method} {c : Code} {D : va_G} {cI cZ : ClassId} {A : Nat → Prop} (h_p0 h_p0_m h_p0_d h_p0_fresh h_p0_young h_p0_dropped h_p0_released h_p0_owed h_p0_counted h_p0_inMemory h_p0_onDisk h_p0_thn : Nat) (mem : (Nat → Int32)) (dsk : (Nat → Int32)) (fresh : (Nat → Int32)) (young : (Nat → Int32)) (dropped : (Nat → Int32)) (released : (Nat → Int32)) (owed : (Nat → Int32)) (counted : (Nat → Int32)) (inMemory : (Nat → Int32)) (onDisk : (Nat → Int32)) (thn : (Nat → Int32)) (moved : Int32) (r : Int32) (cx : cx_ok p s m args meth c b_R_early 4 o_R_early "OrderedVolumeModel" (some .boolean) D cI cZ A) : s_R_early_68 young mem dsk = some r → wk_G p l e rm_R_early s m args below meth c (sc_Qi below args s D cI cZ A (w_R cI cZ h_p0 h_p0_m h_p0_d h_p0_fresh h_p0_young h_p0_dropped h_p0_released h_p0_owed h_p0_counted h_p0_inMemory h_p0_onDisk h_p0_thn mem dsk fresh young dropped released owed counted inMemory onDisk thn moved) r) D A 4 68 [] [(0, .ref h_p0)] (w_R cI cZ h_p0 h_p0_m h_p0_d h_p0_fresh h_p0_young h_p0_dropped h_p0_released h_p0_owed h_p0_counted h_p0_inMemory h_p0_onDisk h_p0_thn mem dsk fresh young dropped released owed counted inMemory onDisk thn moved) := by
  obtain ⟨cf, hr, hlk, hK, hN, hA⟩ := cx
  have hx := cf.1
  have hb := cf.2.1
  have hown := cf.2.2.2.1
  have ht : ∀ w ∈ wA, w.before args s = true := fun w h => cf.2.2.2.2 w (List.mem_cons_of_mem _ h)
  intro  h H locs ls hl hP hD hS
  unfold s_R_early_68 at h
  refine lv_iconst (v := (nI 1)) hx hb d_R_early_68 (by decide) ?_
  refine lv_goto hx hb d_R_early_69 rfl ?_
  have hz : ((nI 1) : Int32) = 0 ∨ ((nI 1) : Int32) = 1 := by decide
  cases h
  exact sc_zret cf hr hlk hz hK hP hD hS d_R_early_73
set_option maxHeartbeats 4000000 in
set_option maxRecDepth 100000 in
theorem w_R_early_72 {p : Program} {l : Launch} {e : Env} {s : State} {m : MethodId} {args : Array Value} {below : List Frame} {meth : Method} {c : Code} {D : va_G} {cI cZ : ClassId} {A : Nat → Prop} (h_p0 h_p0_m h_p0_d h_p0_fresh h_p0_young h_p0_dropped h_p0_released h_p0_owed h_p0_counted h_p0_inMemory h_p0_onDisk h_p0_thn : Nat) (mem : (Nat → Int32)) (dsk : (Nat → Int32)) (fresh : (Nat → Int32)) (young : (Nat → Int32)) (dropped : (Nat → Int32)) (released : (Nat → Int32)) (owed : (Nat → Int32)) (counted : (Nat → Int32)) (inMemory : (Nat → Int32)) (onDisk : (Nat → Int32)) (thn : (Nat → Int32)) (moved : Int32) (r : Int32) (cx : cx_ok p s m args meth c b_R_early 4 o_R_early "OrderedVolumeModel" (some .boolean) D cI cZ A) : s_R_early_72 young mem dsk = some r → wk_G p l e rm_R_early s m args below meth c (sc_Qi below args s D cI cZ A (w_R cI cZ h_p0 h_p0_m h_p0_d h_p0_fresh h_p0_young h_p0_dropped h_p0_released h_p0_owed h_p0_counted h_p0_inMemory h_p0_onDisk h_p0_thn mem dsk fresh young dropped released owed counted inMemory onDisk thn moved) r) D A 4 72 [] [(0, .ref h_p0)] (w_R cI cZ h_p0 h_p0_m h_p0_d h_p0_fresh h_p0_young h_p0_dropped h_p0_released h_p0_owed h_p0_counted h_p0_inMemory h_p0_onDisk h_p0_thn mem dsk fresh young dropped released owed counted inMemory onDisk thn moved) := by
  obtain ⟨cf, hr, hlk, hK, hN, hA⟩ := cx
  have hx := cf.1
  have hb := cf.2.1
  have hown := cf.2.2.2.1
  have ht : ∀ w ∈ wA, w.before args s = true := fun w h => cf.2.2.2.2 w (List.mem_cons_of_mem _ h)
  intro  h H locs ls hl hP hD hS
  unfold s_R_early_72 at h
  refine lv_iconst (v := (nI 0)) hx hb d_R_early_72 (by decide) ?_
  have hz : ((nI 0) : Int32) = 0 ∨ ((nI 0) : Int32) = 1 := by decide
  cases h
  exact sc_zret cf hr hlk hz hK hP hD hS d_R_early_73
set_option maxHeartbeats 4000000 in
set_option maxRecDepth 100000 in
theorem c_R_early (l : Launch) (D : va_G) (cI cZ : ClassId) (h_p0 h_p0_m h_p0_d h_p0_fresh h_p0_young h_p0_dropped h_p0_released h_p0_owed h_p0_counted h_p0_inMemory h_p0_onDisk h_p0_thn : Nat) (mem : (Nat → Int32)) (dsk : (Nat → Int32)) (fresh : (Nat → Int32)) (young : (Nat → Int32)) (dropped : (Nat → Int32)) (released : (Nat → Int32)) (owed : (Nat → Int32)) (counted : (Nat → Int32)) (inMemory : (Nat → Int32)) (onDisk : (Nat → Int32)) (thn : (Nat → Int32)) (moved : Int32) (x1 : Int32) (x2 : Int32) (r : Int32) (h : s_R_early young mem dsk x1 x2 = some r) : sc_i l y_R_early (o_R_early :: wA) rm_R_early D cI cZ [.ref h_p0, .int x1, .int x2] (w_R cI cZ h_p0 h_p0_m h_p0_d h_p0_fresh h_p0_young h_p0_dropped h_p0_released h_p0_owed h_p0_counted h_p0_inMemory h_p0_onDisk h_p0_thn mem dsk fresh young dropped released owed counted inMemory onDisk thn moved) (w_R cI cZ h_p0 h_p0_m h_p0_d h_p0_fresh h_p0_young h_p0_dropped h_p0_released h_p0_owed h_p0_counted h_p0_inMemory h_p0_onDisk h_p0_thn mem dsk fresh young dropped released owed counted inMemory onDisk thn moved) r := by
  refine sc_i_of (cc := b_R_early) (maxL := 4) (ret := (some .boolean)) (by decide) rfl (Nat.le_of_ble_eq_true rfl) ?_
  intro p e s m below meth c A cf hr hlk hK hN hA H locs ls hl hP hD hS
  have hx := cf.1
  have hb := cf.2.1
  have hown := cf.2.2.2.1
  have ht : ∀ w ∈ wA, w.before _ s = true := fun w h => cf.2.2.2.2 w (List.mem_cons_of_mem _ h)
  unfold s_R_early at h
  have hl : lv_has ls 4 [(0, .ref h_p0), (1, .int x1), (2, .int x2)] := hl
  refine lv_aload_n hx hb d_R_early_0 rfl (lv_at hl 0 rfl) ?_
  refine va_get (D := D) (ci := 2) (v := .ref h_p0_m) (C := R_R) (T := F_R) (N := 12) hx hb ht in_R hown hK hP 0 rfl rfl 0 (by decide) (ht _ f_R_7) (fun _ h9 => h9) rfl d_R_early_1 ?_
  refine lv_bipush (v := (nI 30)) hx hb d_R_early_4 (by decide) ?_
  refine lv_iload_n hx hb d_R_early_6 rfl (lv_at hl 1 rfl) ?_
  refine lv_imul hx hb d_R_early_7 ?_
  refine lv_iload_n hx hb d_R_early_8 rfl (lv_at hl 2 rfl) ?_
  refine lv_iadd hx hb d_R_early_9 ?_
  obtain ⟨hin, h⟩ := gr_some h
  refine va_iald hx hb hK hP 1 0 rfl rfl hin d_R_early_10 ?_
  generalize mem (((nI 30) * x1) + x2).toNatClampNeg = v10 at h ⊢
  refine lv_bipush (v := (nI 32)) hx hb d_R_early_11 (by decide) ?_
  refine lv_irem hx hb d_R_early_13 (by decide) ?_
  refine lv_istore_n (lv' := [(3, .int (v10 - v10 / (nI 32) * (nI 32))), (0, .ref h_p0), (1, .int x1), (2, .int x2)]) hx hb d_R_early_14 rfl hl (by decide) rfl (fun ls hl => ?_)
  refine lv_aload_n hx hb d_R_early_15 rfl (lv_at hl 1 rfl) ?_
  refine va_get (D := D) (ci := 2) (v := .ref h_p0_young) (C := R_R) (T := F_R) (N := 12) hx hb ht in_R hown hK hP 0 rfl rfl 3 (by decide) (ht _ f_R_20) (fun _ h9 => h9) rfl d_R_early_16 ?_
  refine lv_bipush (v := (nI 8)) hx hb d_R_early_19 (by decide) ?_
  refine lv_iload_n hx hb d_R_early_21 rfl (lv_at hl 2 rfl) ?_
  refine lv_imul hx hb d_R_early_22 ?_
  refine lv_iload_n hx hb d_R_early_23 rfl (lv_at hl 3 rfl) ?_
  refine lv_iadd hx hb d_R_early_24 ?_
  obtain ⟨hin, h⟩ := gr_some h
  refine va_zald hx hb hK hP 4 1 rfl rfl hin d_R_early_25 ?_
  generalize young (((nI 8) * x1) + x2).toNatClampNeg = v25 at h ⊢
  refine lv_if_ne hx hb d_R_early_26 rfl (fun hc => ?_) (fun hc => ?_)
  · rw [if_neg hc] at h
    exact w_R_early_68 h_p0 h_p0_m h_p0_d h_p0_fresh h_p0_young h_p0_dropped h_p0_released h_p0_owed h_p0_counted h_p0_inMemory h_p0_onDisk h_p0_thn mem dsk fresh young dropped released owed counted inMemory onDisk thn moved r ⟨cf, hr, hlk, hK, hN, hA⟩ h H locs ls (lv_sub hl [1] rfl) hP hD hS
  · rw [if_pos hc] at h
    refine lv_aload_n hx hb d_R_early_29 rfl (lv_at hl 1 rfl) ?_
    refine va_get (D := D) (ci := 2) (v := .ref h_p0_d) (C := R_R) (T := F_R) (N := 12) hx hb ht in_R hown hK hP 0 rfl rfl 1 (by decide) (ht _ f_R_13) (fun _ h9 => h9) rfl d_R_early_30 ?_
    refine lv_iload_n hx hb d_R_early_33 rfl (lv_at hl 0 rfl) ?_
    obtain ⟨r34, h34, h⟩ := bd_some h
    refine wk_Si (As := [.int (v10 - v10 / (nI 32) * (nI 32))]) (rest := [.ref h_p0_d]) (wc := []) (w1 := []) (wr := [(h_p0, .inr (2, [.ref h_p0_m, .ref h_p0_d, .ref h_p0_fresh, .ref h_p0_young, .ref h_p0_dropped, .ref h_p0_released, .ref h_p0_owed, .ref h_p0_counted, .ref h_p0_inMemory, .ref h_p0_onDisk, .ref h_p0_thn, .int moved])), (h_p0_m, .inl (cI, 1080, .inl mem)), (h_p0_d, .inl (cI, 1080, .inl dsk)), (h_p0_fresh, .inl (cZ, 36, .inl fresh)), (h_p0_young, .inl (cZ, 288, .inl young)), (h_p0_dropped, .inl (cI, 36, .inl dropped)), (h_p0_released, .inl (cZ, 18, .inl released)), (h_p0_owed, .inl (cI, 18, .inl owed)), (h_p0_counted, .inl (cI, 18, .inl counted)), (h_p0_inMemory, .inl (cZ, 18, .inl inMemory)), (h_p0_onDisk, .inl (cZ, 18, .inl onDisk)), (h_p0_thn, .inl (cZ, 18, .inl thn))]) (wz := (w_R cI cZ h_p0 h_p0_m h_p0_d h_p0_fresh h_p0_young h_p0_dropped h_p0_released h_p0_owed h_p0_counted h_p0_inMemory h_p0_onDisk h_p0_thn mem dsk fresh young dropped released owed counted inMemory onDisk thn moved)) cf hK hN hA (c_R_markOfInode l D cI cZ 0 (v10 - v10 / (nI 32) * (nI 32)) r34 h34) k_R_48 ⟨rfl, rfl, by decide, by decide⟩ hl hP hD hS [] [0, 1, 2, 3, 4, 5, 6, 7, 8, 9, 10, 11] [0, 1, 2, 3, 4, 5, 6, 7, 8, 9, 10, 11] rfl rfl rfl (by decide) rfl rfl rfl rfl rfl (Nat.le_of_ble_eq_true rfl) rfl d_R_early_34 (fun H locs hP hD hS => ?_)
    obtain ⟨hin, h⟩ := gr_some h
    refine va_iald hx hb hK hP 2 0 rfl rfl hin d_R_early_37 ?_
    generalize dsk r34.toNatClampNeg = v37 at h ⊢
    refine lv_if_eq hx hb d_R_early_38 rfl (fun hc => ?_) (fun hc => ?_)
    · rw [if_pos hc] at h
      exact w_R_early_68 h_p0 h_p0_m h_p0_d h_p0_fresh h_p0_young h_p0_dropped h_p0_released h_p0_owed h_p0_counted h_p0_inMemory h_p0_onDisk h_p0_thn mem dsk fresh young dropped released owed counted inMemory onDisk thn moved r ⟨cf, hr, hlk, hK, hN, hA⟩ h H locs ls (lv_sub hl [1] rfl) hP hD hS
    · rw [if_neg hc] at h
      refine lv_aload_n hx hb d_R_early_41 rfl (lv_at hl 1 rfl) ?_
      refine va_get (D := D) (ci := 2) (v := .ref h_p0_m) (C := R_R) (T := F_R) (N := 12) hx hb ht in_R hown hK hP 0 rfl rfl 0 (by decide) (ht _ f_R_7) (fun _ h9 => h9) rfl d_R_early_42 ?_
      refine lv_iload_n hx hb d_R_early_45 rfl (lv_at hl 0 rfl) ?_
      refine lv_iconst (v := (nI 0)) hx hb d_R_early_46 (by decide) ?_
      obtain ⟨r47, h47, h⟩ := bd_some h
      refine wk_Si (As := [.int (v10 - v10 / (nI 32) * (nI 32)), .int (nI 0)]) (rest := [.ref h_p0_m]) (wc := []) (w1 := []) (wr := [(h_p0, .inr (2, [.ref h_p0_m, .ref h_p0_d, .ref h_p0_fresh, .ref h_p0_young, .ref h_p0_dropped, .ref h_p0_released, .ref h_p0_owed, .ref h_p0_counted, .ref h_p0_inMemory, .ref h_p0_onDisk, .ref h_p0_thn, .int moved])), (h_p0_m, .inl (cI, 1080, .inl mem)), (h_p0_d, .inl (cI, 1080, .inl dsk)), (h_p0_fresh, .inl (cZ, 36, .inl fresh)), (h_p0_young, .inl (cZ, 288, .inl young)), (h_p0_dropped, .inl (cI, 36, .inl dropped)), (h_p0_released, .inl (cZ, 18, .inl released)), (h_p0_owed, .inl (cI, 18, .inl owed)), (h_p0_counted, .inl (cI, 18, .inl counted)), (h_p0_inMemory, .inl (cZ, 18, .inl inMemory)), (h_p0_onDisk, .inl (cZ, 18, .inl onDisk)), (h_p0_thn, .inl (cZ, 18, .inl thn))]) (wz := (w_R cI cZ h_p0 h_p0_m h_p0_d h_p0_fresh h_p0_young h_p0_dropped h_p0_released h_p0_owed h_p0_counted h_p0_inMemory h_p0_onDisk h_p0_thn mem dsk fresh young dropped released owed counted inMemory onDisk thn moved)) cf hK hN hA (c_R_at l D cI cZ 0 (v10 - v10 / (nI 32) * (nI 32)) (nI 0) r47 h47) k_R_44 ⟨rfl, rfl, by decide, by decide⟩ hl hP hD hS [] [0, 1, 2, 3, 4, 5, 6, 7, 8, 9, 10, 11] [0, 1, 2, 3, 4, 5, 6, 7, 8, 9, 10, 11] rfl rfl rfl (by decide) rfl rfl rfl rfl rfl (Nat.le_of_ble_eq_true rfl) rfl d_R_early_47 (fun H locs hP hD hS => ?_)
      obtain ⟨hin, h⟩ := gr_some h
      refine va_iald hx hb hK hP 1 0 rfl rfl hin d_R_early_50 ?_
      generalize mem r47.toNatClampNeg = v50 at h ⊢
      refine lv_iconst (v := (nI 2)) hx hb d_R_early_51 (by decide) ?_
      refine lv_icmp_ne hx hb d_R_early_52 rfl (fun hc => ?_) (fun hc => ?_)
      · rw [if_neg hc] at h
        exact w_R_early_72 h_p0 h_p0_m h_p0_d h_p0_fresh h_p0_young h_p0_dropped h_p0_released h_p0_owed h_p0_counted h_p0_inMemory h_p0_onDisk h_p0_thn mem dsk fresh young dropped released owed counted inMemory onDisk thn moved r ⟨cf, hr, hlk, hK, hN, hA⟩ h H locs ls (lv_sub hl [1] rfl) hP hD hS
      · rw [if_pos hc] at h
        refine lv_aload_n hx hb d_R_early_55 rfl (lv_at hl 1 rfl) ?_
        refine va_get (D := D) (ci := 2) (v := .ref h_p0_d) (C := R_R) (T := F_R) (N := 12) hx hb ht in_R hown hK hP 0 rfl rfl 1 (by decide) (ht _ f_R_13) (fun _ h9 => h9) rfl d_R_early_56 ?_
        refine lv_iload_n hx hb d_R_early_59 rfl (lv_at hl 0 rfl) ?_
        refine lv_iconst (v := (nI 2)) hx hb d_R_early_60 (by decide) ?_
        obtain ⟨r61, h61, h⟩ := bd_some h
        refine wk_Si (As := [.int (v10 - v10 / (nI 32) * (nI 32)), .int (nI 2)]) (rest := [.ref h_p0_d]) (wc := []) (w1 := []) (wr := [(h_p0, .inr (2, [.ref h_p0_m, .ref h_p0_d, .ref h_p0_fresh, .ref h_p0_young, .ref h_p0_dropped, .ref h_p0_released, .ref h_p0_owed, .ref h_p0_counted, .ref h_p0_inMemory, .ref h_p0_onDisk, .ref h_p0_thn, .int moved])), (h_p0_m, .inl (cI, 1080, .inl mem)), (h_p0_d, .inl (cI, 1080, .inl dsk)), (h_p0_fresh, .inl (cZ, 36, .inl fresh)), (h_p0_young, .inl (cZ, 288, .inl young)), (h_p0_dropped, .inl (cI, 36, .inl dropped)), (h_p0_released, .inl (cZ, 18, .inl released)), (h_p0_owed, .inl (cI, 18, .inl owed)), (h_p0_counted, .inl (cI, 18, .inl counted)), (h_p0_inMemory, .inl (cZ, 18, .inl inMemory)), (h_p0_onDisk, .inl (cZ, 18, .inl onDisk)), (h_p0_thn, .inl (cZ, 18, .inl thn))]) (wz := (w_R cI cZ h_p0 h_p0_m h_p0_d h_p0_fresh h_p0_young h_p0_dropped h_p0_released h_p0_owed h_p0_counted h_p0_inMemory h_p0_onDisk h_p0_thn mem dsk fresh young dropped released owed counted inMemory onDisk thn moved)) cf hK hN hA (c_R_at l D cI cZ 0 (v10 - v10 / (nI 32) * (nI 32)) (nI 2) r61 h61) k_R_44 ⟨rfl, rfl, by decide, by decide⟩ hl hP hD hS [] [0, 1, 2, 3, 4, 5, 6, 7, 8, 9, 10, 11] [0, 1, 2, 3, 4, 5, 6, 7, 8, 9, 10, 11] rfl rfl rfl (by decide) rfl rfl rfl rfl rfl (Nat.le_of_ble_eq_true rfl) rfl d_R_early_61 (fun H locs hP hD hS => ?_)
        obtain ⟨hin, h⟩ := gr_some h
        refine va_iald hx hb hK hP 2 0 rfl rfl hin d_R_early_64 ?_
        generalize dsk r61.toNatClampNeg = v64 at h ⊢
        refine lv_if_ne hx hb d_R_early_65 rfl (fun hc => ?_) (fun hc => ?_)
        · rw [if_neg hc] at h
          exact w_R_early_72 h_p0 h_p0_m h_p0_d h_p0_fresh h_p0_young h_p0_dropped h_p0_released h_p0_owed h_p0_counted h_p0_inMemory h_p0_onDisk h_p0_thn mem dsk fresh young dropped released owed counted inMemory onDisk thn moved r ⟨cf, hr, hlk, hK, hN, hA⟩ h H locs ls (lv_sub hl [1] rfl) hP hD hS
        · rw [if_pos hc] at h
          exact w_R_early_68 h_p0 h_p0_m h_p0_d h_p0_fresh h_p0_young h_p0_dropped h_p0_released h_p0_owed h_p0_counted h_p0_inMemory h_p0_onDisk h_p0_thn mem dsk fresh young dropped released owed counted inMemory onDisk thn moved r ⟨cf, hr, hlk, hK, hN, hA⟩ h H locs ls (lv_sub hl [1] rfl) hP hD hS
set_option maxHeartbeats 4000000 in
set_option maxRecDepth 100000 in
theorem w_R_spread_onDisk_108 {p : Program} {l : Launch} {e : Env} {s : State} {m : MethodId} {args : Array Value} {below : List Frame} {meth : Method} {c : Code} {D : va_G} {cI cZ : ClassId} {A : Nat → Prop} (h_p0 h_p0_m h_p0_d h_p0_fresh h_p0_young h_p0_dropped h_p0_released h_p0_owed h_p0_counted h_p0_inMemory h_p0_onDisk h_p0_thn : Nat) (F : Nat) (mem : (Nat → Int32)) (dsk : (Nat → Int32)) (fresh : (Nat → Int32)) (young : (Nat → Int32)) (dropped : (Nat → Int32)) (released : (Nat → Int32)) (owed : (Nat → Int32)) (counted : (Nat → Int32)) (inMemory : (Nat → Int32)) (thn : (Nat → Int32)) (moved : Int32) (onDisk' : (Nat → Int32)) (k73 : Int32 → Int32 → Int32 → (Nat → Int32) → Option ((Nat → Int32))) (cx : cx_ok p s m args meth c b_R_spread 8 o_R_spread "OrderedVolumeModel" none D cI cZ A) (h73 : (∀ (x1 : Int32) (x5 : Int32) (x6 : Int32) (onDisk : (Nat → Int32)), k73 x1 x5 x6 onDisk = some onDisk' → wk_G p l e rm_R_spread s m args below meth c (sc_Qv below args s D cI cZ A (w_R cI cZ h_p0 h_p0_m h_p0_d h_p0_fresh h_p0_young h_p0_dropped h_p0_released h_p0_owed h_p0_counted h_p0_inMemory h_p0_onDisk h_p0_thn mem dsk fresh young dropped released owed counted inMemory (onDisk') thn moved)) D A 8 73 [] [(0, .ref h_p0), (3, .ref h_p0_onDisk), (1, .int x1), (5, .int x5), (6, .int x6)] (w_R cI cZ h_p0 h_p0_m h_p0_d h_p0_fresh h_p0_young h_p0_dropped h_p0_released h_p0_owed h_p0_counted h_p0_inMemory h_p0_onDisk h_p0_thn mem dsk fresh young dropped released owed counted inMemory onDisk thn moved))) : ∀ (x1 : Int32) (x5 : Int32) (x6 : Int32) (t0 : Int32) (onDisk : (Nat → Int32)), s_R_spread_onDisk_108 F mem dsk fresh k73 x1 x5 x6 t0 onDisk = some onDisk' → wk_G p l e rm_R_spread s m args below meth c (sc_Qv below args s D cI cZ A (w_R cI cZ h_p0 h_p0_m h_p0_d h_p0_fresh h_p0_young h_p0_dropped h_p0_released h_p0_owed h_p0_counted h_p0_inMemory h_p0_onDisk h_p0_thn mem dsk fresh young dropped released owed counted inMemory (onDisk') thn moved)) D A 8 108 [.int t0] [(0, .ref h_p0), (3, .ref h_p0_onDisk), (1, .int x1), (5, .int x5), (6, .int x6)] (w_R cI cZ h_p0 h_p0_m h_p0_d h_p0_fresh h_p0_young h_p0_dropped h_p0_released h_p0_owed h_p0_counted h_p0_inMemory h_p0_onDisk h_p0_thn mem dsk fresh young dropped released owed counted inMemory onDisk thn moved) := by
  obtain ⟨cf, hr, hlk, hK, hN, hA⟩ := cx
  have hx := cf.1
  have hb := cf.2.1
  have hown := cf.2.2.2.1
  have ht : ∀ w ∈ wA, w.before args s = true := fun w h => cf.2.2.2.2 w (List.mem_cons_of_mem _ h)
  intro x1 x5 x6 t0 onDisk h H locs ls hl hP hD hS
  unfold s_R_spread_onDisk_108 at h
  refine lv_istore (lv' := [(7, .int t0), (0, .ref h_p0), (3, .ref h_p0_onDisk), (1, .int x1), (5, .int x5), (6, .int x6)]) hx hb d_R_spread_108 hl (by decide) rfl (fun ls hl => ?_)
  refine lv_iload hx hb d_R_spread_110 (lv_at hl 0 rfl) ?_
  refine lv_if_eq hx hb d_R_spread_112 rfl (fun hc => ?_) (fun hc => ?_)
  · rw [if_pos hc] at h
    refine lv_iinc (k := 5) (v := (x6 + (nI 1))) (lv' := [(6, .int (x6 + (nI 1))), (7, .int t0), (0, .ref h_p0), (3, .ref h_p0_onDisk), (1, .int x1), (5, .int x5)]) hx hb d_R_spread_123 hl rfl rfl (by decide) rfl (fun ls hl => ?_)
    refine lv_goto hx hb d_R_spread_126 rfl ?_
    exact h73 x1 x5 (x6 + (nI 1)) onDisk h H locs ls (lv_sub hl [2, 3, 4, 5, 0] rfl) hP hD hS
  · rw [if_neg hc] at h
    refine lv_aload_n hx hb d_R_spread_115 rfl (lv_at hl 2 rfl) ?_
    refine lv_iload hx hb d_R_spread_116 (lv_at hl 0 rfl) ?_
    refine lv_bipush (v := (nI 32)) hx hb d_R_spread_118 (by decide) ?_
    refine lv_irem hx hb d_R_spread_120 (by decide) ?_
    refine lv_iconst (v := (nI 1)) hx hb d_R_spread_121 (by decide) ?_
    obtain ⟨hin, h⟩ := ga_some h
    refine va_zast hx hb hK hP hD hS 10 1 rfl rfl hin d_R_spread_122 (fun H locs hP hD hS => ?_)
    have hP : va_P D clA (w_R cI cZ h_p0 h_p0_m h_p0_d h_p0_fresh h_p0_young h_p0_dropped h_p0_released h_p0_owed h_p0_counted h_p0_inMemory h_p0_onDisk h_p0_thn mem dsk fresh young dropped released owed counted inMemory (upd onDisk (t0 - t0 / (nI 32) * (nI 32)).toNatClampNeg (vp_nar .boolean (nI 1))) thn moved) H := hP
    have hD : va_D A (w_R cI cZ h_p0 h_p0_m h_p0_d h_p0_fresh h_p0_young h_p0_dropped h_p0_released h_p0_owed h_p0_counted h_p0_inMemory h_p0_onDisk h_p0_thn mem dsk fresh young dropped released owed counted inMemory (upd onDisk (t0 - t0 / (nI 32) * (nI 32)).toNatClampNeg (vp_nar .boolean (nI 1))) thn moved) := hD
    refine lv_iinc (k := 5) (v := (x6 + (nI 1))) (lv' := [(6, .int (x6 + (nI 1))), (7, .int t0), (0, .ref h_p0), (3, .ref h_p0_onDisk), (1, .int x1), (5, .int x5)]) hx hb d_R_spread_123 hl rfl rfl (by decide) rfl (fun ls hl => ?_)
    refine lv_goto hx hb d_R_spread_126 rfl ?_
    exact h73 x1 x5 (x6 + (nI 1)) (upd onDisk (t0 - t0 / (nI 32) * (nI 32)).toNatClampNeg (vp_nar .boolean (nI 1))) h H locs ls (lv_sub hl [2, 3, 4, 5, 0] rfl) hP hD hS
set_option maxHeartbeats 4000000 in
set_option maxRecDepth 100000 in
theorem w_R_spread_onDisk_73 {p : Program} {l : Launch} {e : Env} {s : State} {m : MethodId} {args : Array Value} {below : List Frame} {meth : Method} {c : Code} {D : va_G} {cI cZ : ClassId} {A : Nat → Prop} (h_p0 h_p0_m h_p0_d h_p0_fresh h_p0_young h_p0_dropped h_p0_released h_p0_owed h_p0_counted h_p0_inMemory h_p0_onDisk h_p0_thn : Nat) (F : Nat) (mem : (Nat → Int32)) (dsk : (Nat → Int32)) (fresh : (Nat → Int32)) (young : (Nat → Int32)) (dropped : (Nat → Int32)) (released : (Nat → Int32)) (owed : (Nat → Int32)) (counted : (Nat → Int32)) (inMemory : (Nat → Int32)) (thn : (Nat → Int32)) (moved : Int32) (onDisk' : (Nat → Int32)) (cx : cx_ok p s m args meth c b_R_spread 8 o_R_spread "OrderedVolumeModel" none D cI cZ A) : ∀ (n : Nat) (x1 : Int32) (x5 : Int32) (x6 : Int32) (onDisk : (Nat → Int32)), s_R_spread_onDisk_73 F mem dsk fresh n x1 x5 x6 onDisk = some onDisk' → wk_G p l e rm_R_spread s m args below meth c (sc_Qv below args s D cI cZ A (w_R cI cZ h_p0 h_p0_m h_p0_d h_p0_fresh h_p0_young h_p0_dropped h_p0_released h_p0_owed h_p0_counted h_p0_inMemory h_p0_onDisk h_p0_thn mem dsk fresh young dropped released owed counted inMemory (onDisk') thn moved)) D A 8 73 [] [(0, .ref h_p0), (3, .ref h_p0_onDisk), (1, .int x1), (5, .int x5), (6, .int x6)] (w_R cI cZ h_p0 h_p0_m h_p0_d h_p0_fresh h_p0_young h_p0_dropped h_p0_released h_p0_owed h_p0_counted h_p0_inMemory h_p0_onDisk h_p0_thn mem dsk fresh young dropped released owed counted inMemory onDisk thn moved) := by
  obtain ⟨cf, hr, hlk, hK, hN, hA⟩ := cx
  have hx := cf.1
  have hb := cf.2.1
  have hown := cf.2.2.2.1
  have ht : ∀ w ∈ wA, w.before args s = true := fun w h => cf.2.2.2.2 w (List.mem_cons_of_mem _ h)
  intro n
  induction n with
  | zero => intro x1 x5 x6 onDisk h; cases (show (none : Option ((Nat → Int32))) = some _ from h)
  | succ n ih =>
    intro x1 x5 x6 onDisk h H locs ls hl hP hD hS
    unfold s_R_spread_onDisk_73 at h
    refine lv_iload hx hb d_R_spread_73 (lv_at hl 4 rfl) ?_
    refine lv_bipush (v := (nI 8)) hx hb d_R_spread_75 (by decide) ?_
    refine lv_icmp_ge hx hb d_R_spread_77 rfl (fun hc => ?_) (fun hc => ?_)
    · rw [if_pos hc] at h
      cases h
      exact sc_vret cf hr hlk hK hP hD hS d_R_spread_129
    · rw [if_neg hc] at h
      refine lv_iload_n hx hb d_R_spread_80 rfl (lv_at hl 2 rfl) ?_
      refine lv_if_eq hx hb d_R_spread_81 rfl (fun hc => ?_) (fun hc => ?_)
      · rw [if_pos hc] at h
        refine lv_aload_n hx hb d_R_spread_95 rfl (lv_at hl 0 rfl) ?_
        refine va_get (D := D) (ci := 2) (v := .ref h_p0_m) (C := R_R) (T := F_R) (N := 12) hx hb ht in_R hown hK hP 0 rfl rfl 0 (by decide) (ht _ f_R_7) (fun _ h9 => h9) rfl d_R_spread_96 ?_
        refine lv_bipush (v := (nI 30)) hx hb d_R_spread_99 (by decide) ?_
        refine lv_iload hx hb d_R_spread_101 (lv_at hl 3 rfl) ?_
        refine lv_imul hx hb d_R_spread_103 ?_
        refine lv_iload hx hb d_R_spread_104 (lv_at hl 4 rfl) ?_
        refine lv_iadd hx hb d_R_spread_106 ?_
        obtain ⟨hin, h⟩ := gr_some h
        refine va_iald hx hb hK hP 1 0 rfl rfl hin d_R_spread_107 ?_
        generalize mem (((nI 30) * x5) + x6).toNatClampNeg = v107 at h ⊢
        exact w_R_spread_onDisk_108 h_p0 h_p0_m h_p0_d h_p0_fresh h_p0_young h_p0_dropped h_p0_released h_p0_owed h_p0_counted h_p0_inMemory h_p0_onDisk h_p0_thn F mem dsk fresh young dropped released owed counted inMemory thn moved onDisk' _ ⟨cf, hr, hlk, hK, hN, hA⟩ ih x1 x5 x6 v107 onDisk h H locs ls (lv_sub hl [0, 1, 2, 3, 4] rfl) hP hD hS
      · rw [if_neg hc] at h
        refine lv_aload_n hx hb d_R_spread_84 rfl (lv_at hl 0 rfl) ?_
        refine lv_iload hx hb d_R_spread_85 (lv_at hl 3 rfl) ?_
        refine lv_iload hx hb d_R_spread_87 (lv_at hl 4 rfl) ?_
        obtain ⟨r89, h89, h⟩ := bd_some h
        refine wk_Vi (As := [.int x5, .int x6]) (rest := []) (wc := (w_R cI cZ h_p0 h_p0_m h_p0_d h_p0_fresh h_p0_young h_p0_dropped h_p0_released h_p0_owed h_p0_counted h_p0_inMemory h_p0_onDisk h_p0_thn mem dsk fresh young dropped released owed counted inMemory onDisk thn moved)) (w1 := (w_R cI cZ h_p0 h_p0_m h_p0_d h_p0_fresh h_p0_young h_p0_dropped h_p0_released h_p0_owed h_p0_counted h_p0_inMemory h_p0_onDisk h_p0_thn mem dsk fresh young dropped released owed counted inMemory onDisk thn moved)) (wr := []) (wz := (w_R cI cZ h_p0 h_p0_m h_p0_d h_p0_fresh h_p0_young h_p0_dropped h_p0_released h_p0_owed h_p0_counted h_p0_inMemory h_p0_onDisk h_p0_thn mem dsk fresh young dropped released owed counted inMemory onDisk thn moved)) cf hK hN hA (c_R_seen l D cI cZ h_p0 h_p0_m h_p0_d h_p0_fresh h_p0_young h_p0_dropped h_p0_released h_p0_owed h_p0_counted h_p0_inMemory h_p0_onDisk h_p0_thn mem dsk fresh young dropped released owed counted inMemory onDisk thn moved x5 x6 r89 h89) k_R_66 ⟨rfl, rfl, by decide, by decide⟩ 2 rfl rfl rfl hl hP hD hS [0, 1, 2, 3, 4, 5, 6, 7, 8, 9, 10, 11] [] [0, 1, 2, 3, 4, 5, 6, 7, 8, 9, 10, 11] rfl rfl rfl (by decide) rfl rfl rfl rfl rfl (Nat.le_of_ble_eq_true rfl) rfl d_R_spread_89 (fun H locs hP hD hS => ?_)
        refine lv_goto hx hb d_R_spread_92 rfl ?_
        exact w_R_spread_onDisk_108 h_p0 h_p0_m h_p0_d h_p0_fresh h_p0_young h_p0_dropped h_p0_released h_p0_owed h_p0_counted h_p0_inMemory h_p0_onDisk h_p0_thn F mem dsk fresh young dropped released owed counted inMemory thn moved onDisk' _ ⟨cf, hr, hlk, hK, hN, hA⟩ ih x1 x5 x6 r89 onDisk h H locs ls (lv_sub hl [0, 1, 2, 3, 4] rfl) hP hD hS
set_option maxHeartbeats 4000000 in
set_option maxRecDepth 100000 in
theorem w_R_spread_onDisk_56 {p : Program} {l : Launch} {e : Env} {s : State} {m : MethodId} {args : Array Value} {below : List Frame} {meth : Method} {c : Code} {D : va_G} {cI cZ : ClassId} {A : Nat → Prop} (h_p0 h_p0_m h_p0_d h_p0_fresh h_p0_young h_p0_dropped h_p0_released h_p0_owed h_p0_counted h_p0_inMemory h_p0_onDisk h_p0_thn : Nat) (F : Nat) (mem : (Nat → Int32)) (dsk : (Nat → Int32)) (fresh : (Nat → Int32)) (young : (Nat → Int32)) (dropped : (Nat → Int32)) (released : (Nat → Int32)) (owed : (Nat → Int32)) (counted : (Nat → Int32)) (inMemory : (Nat → Int32)) (thn : (Nat → Int32)) (moved : Int32) (onDisk' : (Nat → Int32)) (cx : cx_ok p s m args meth c b_R_spread 8 o_R_spread "OrderedVolumeModel" none D cI cZ A) : ∀ (x1 : Int32) (x4 : Int32) (t0 : Int32) (onDisk : (Nat → Int32)), s_R_spread_onDisk_56 F mem dsk fresh x1 x4 t0 onDisk = some onDisk' → wk_G p l e rm_R_spread s m args below meth c (sc_Qv below args s D cI cZ A (w_R cI cZ h_p0 h_p0_m h_p0_d h_p0_fresh h_p0_young h_p0_dropped h_p0_released h_p0_owed h_p0_counted h_p0_inMemory h_p0_onDisk h_p0_thn mem dsk fresh young dropped released owed counted inMemory (onDisk') thn moved)) D A 8 56 [.int t0] [(0, .ref h_p0), (3, .ref h_p0_onDisk), (1, .int x1), (4, .int x4)] (w_R cI cZ h_p0 h_p0_m h_p0_d h_p0_fresh h_p0_young h_p0_dropped h_p0_released h_p0_owed h_p0_counted h_p0_inMemory h_p0_onDisk h_p0_thn mem dsk fresh young dropped released owed counted inMemory onDisk thn moved) := by
  obtain ⟨cf, hr, hlk, hK, hN, hA⟩ := cx
  have hx := cf.1
  have hb := cf.2.1
  have hown := cf.2.2.2.1
  have ht : ∀ w ∈ wA, w.before args s = true := fun w h => cf.2.2.2.2 w (List.mem_cons_of_mem _ h)
  intro x1 x4 t0 onDisk h H locs ls hl hP hD hS
  unfold s_R_spread_onDisk_56 at h
  refine lv_istore (lv' := [(5, .int t0), (0, .ref h_p0), (3, .ref h_p0_onDisk), (1, .int x1), (4, .int x4)]) hx hb d_R_spread_56 hl (by decide) rfl (fun ls hl => ?_)
  refine lv_iload hx hb d_R_spread_58 (lv_at hl 4 rfl) ?_
  refine lv_iconst (v := (nI 2)) hx hb d_R_spread_60 (by decide) ?_
  refine lv_icmp_ne hx hb d_R_spread_61 rfl (fun hc => ?_) (fun hc => ?_)
  · rw [if_neg hc] at h
    cases h
    exact sc_vret cf hr hlk hK hP hD hS d_R_spread_69
  · rw [if_pos hc] at h
    refine lv_iload hx hb d_R_spread_64 (lv_at hl 0 rfl) ?_
    refine lv_if_ne hx hb d_R_spread_66 rfl (fun hc => ?_) (fun hc => ?_)
    · rw [if_neg hc] at h
      refine lv_iconst (v := (nI 0)) hx hb d_R_spread_70 (by decide) ?_
      refine lv_istore (lv' := [(6, .int (nI 0)), (5, .int t0), (0, .ref h_p0), (3, .ref h_p0_onDisk), (1, .int x1), (4, .int x4)]) hx hb d_R_spread_71 hl (by decide) rfl (fun ls hl => ?_)
      exact w_R_spread_onDisk_73 h_p0 h_p0_m h_p0_d h_p0_fresh h_p0_young h_p0_dropped h_p0_released h_p0_owed h_p0_counted h_p0_inMemory h_p0_onDisk h_p0_thn F mem dsk fresh young dropped released owed counted inMemory thn moved onDisk' ⟨cf, hr, hlk, hK, hN, hA⟩ F x1 t0 (nI 0) onDisk h H locs ls (lv_sub hl [2, 3, 4, 1, 0] rfl) hP hD hS
    · rw [if_pos hc] at h
      cases h
      exact sc_vret cf hr hlk hK hP hD hS d_R_spread_69
set_option maxHeartbeats 4000000 in
set_option maxRecDepth 100000 in
theorem w_R_spread_onDisk_27 {p : Program} {l : Launch} {e : Env} {s : State} {m : MethodId} {args : Array Value} {below : List Frame} {meth : Method} {c : Code} {D : va_G} {cI cZ : ClassId} {A : Nat → Prop} (h_p0 h_p0_m h_p0_d h_p0_fresh h_p0_young h_p0_dropped h_p0_released h_p0_owed h_p0_counted h_p0_inMemory h_p0_onDisk h_p0_thn : Nat) (F : Nat) (mem : (Nat → Int32)) (dsk : (Nat → Int32)) (fresh : (Nat → Int32)) (young : (Nat → Int32)) (dropped : (Nat → Int32)) (released : (Nat → Int32)) (owed : (Nat → Int32)) (counted : (Nat → Int32)) (inMemory : (Nat → Int32)) (thn : (Nat → Int32)) (moved : Int32) (onDisk' : (Nat → Int32)) (cx : cx_ok p s m args meth c b_R_spread 8 o_R_spread "OrderedVolumeModel" none D cI cZ A) : ∀ (x1 : Int32) (x2 : Int32) (t0 : Int32) (onDisk : (Nat → Int32)), s_R_spread_onDisk_27 F mem dsk fresh x1 x2 t0 onDisk = some onDisk' → wk_G p l e rm_R_spread s m args below meth c (sc_Qv below args s D cI cZ A (w_R cI cZ h_p0 h_p0_m h_p0_d h_p0_fresh h_p0_young h_p0_dropped h_p0_released h_p0_owed h_p0_counted h_p0_inMemory h_p0_onDisk h_p0_thn mem dsk fresh young dropped released owed counted inMemory (onDisk') thn moved)) D A 8 27 [.int t0] [(0, .ref h_p0), (3, .ref h_p0_onDisk), (1, .int x1), (2, .int x2)] (w_R cI cZ h_p0 h_p0_m h_p0_d h_p0_fresh h_p0_young h_p0_dropped h_p0_released h_p0_owed h_p0_counted h_p0_inMemory h_p0_onDisk h_p0_thn mem dsk fresh young dropped released owed counted inMemory onDisk thn moved) := by
  obtain ⟨cf, hr, hlk, hK, hN, hA⟩ := cx
  have hx := cf.1
  have hb := cf.2.1
  have hown := cf.2.2.2.1
  have ht : ∀ w ∈ wA, w.before args s = true := fun w h => cf.2.2.2.2 w (List.mem_cons_of_mem _ h)
  intro x1 x2 t0 onDisk h H locs ls hl hP hD hS
  unfold s_R_spread_onDisk_27 at h
  refine lv_istore (lv' := [(4, .int t0), (0, .ref h_p0), (3, .ref h_p0_onDisk), (1, .int x1), (2, .int x2)]) hx hb d_R_spread_27 hl (by decide) rfl (fun ls hl => ?_)
  refine lv_iload_n hx hb d_R_spread_29 rfl (lv_at hl 3 rfl) ?_
  refine lv_if_eq hx hb d_R_spread_30 rfl (fun hc => ?_) (fun hc => ?_)
  · rw [if_pos hc] at h
    refine lv_aload_n hx hb d_R_spread_46 rfl (lv_at hl 1 rfl) ?_
    refine va_get (D := D) (ci := 2) (v := .ref h_p0_m) (C := R_R) (T := F_R) (N := 12) hx hb ht in_R hown hK hP 0 rfl rfl 0 (by decide) (ht _ f_R_7) (fun _ h9 => h9) rfl d_R_spread_47 ?_
    refine lv_iload_n hx hb d_R_spread_50 rfl (lv_at hl 4 rfl) ?_
    refine lv_iconst (v := (nI 2)) hx hb d_R_spread_51 (by decide) ?_
    obtain ⟨r52, h52, h⟩ := bd_some h
    refine wk_Si (As := [.int x2, .int (nI 2)]) (rest := [.ref h_p0_m]) (wc := []) (w1 := []) (wr := [(h_p0, .inr (2, [.ref h_p0_m, .ref h_p0_d, .ref h_p0_fresh, .ref h_p0_young, .ref h_p0_dropped, .ref h_p0_released, .ref h_p0_owed, .ref h_p0_counted, .ref h_p0_inMemory, .ref h_p0_onDisk, .ref h_p0_thn, .int moved])), (h_p0_m, .inl (cI, 1080, .inl mem)), (h_p0_d, .inl (cI, 1080, .inl dsk)), (h_p0_fresh, .inl (cZ, 36, .inl fresh)), (h_p0_young, .inl (cZ, 288, .inl young)), (h_p0_dropped, .inl (cI, 36, .inl dropped)), (h_p0_released, .inl (cZ, 18, .inl released)), (h_p0_owed, .inl (cI, 18, .inl owed)), (h_p0_counted, .inl (cI, 18, .inl counted)), (h_p0_inMemory, .inl (cZ, 18, .inl inMemory)), (h_p0_onDisk, .inl (cZ, 18, .inl onDisk)), (h_p0_thn, .inl (cZ, 18, .inl thn))]) (wz := (w_R cI cZ h_p0 h_p0_m h_p0_d h_p0_fresh h_p0_young h_p0_dropped h_p0_released h_p0_owed h_p0_counted h_p0_inMemory h_p0_onDisk h_p0_thn mem dsk fresh young dropped released owed counted inMemory onDisk thn moved)) cf hK hN hA (c_R_at l D cI cZ 0 x2 (nI 2) r52 h52) k_R_44 ⟨rfl, rfl, by decide, by decide⟩ hl hP hD hS [] [0, 1, 2, 3, 4, 5, 6, 7, 8, 9, 10, 11] [0, 1, 2, 3, 4, 5, 6, 7, 8, 9, 10, 11] rfl rfl rfl (by decide) rfl rfl rfl rfl rfl (Nat.le_of_ble_eq_true rfl) rfl d_R_spread_52 (fun H locs hP hD hS => ?_)
    obtain ⟨hin, h⟩ := gr_some h
    refine va_iald hx hb hK hP 1 0 rfl rfl hin d_R_spread_55 ?_
    generalize mem r52.toNatClampNeg = v55 at h ⊢
    exact w_R_spread_onDisk_56 h_p0 h_p0_m h_p0_d h_p0_fresh h_p0_young h_p0_dropped h_p0_released h_p0_owed h_p0_counted h_p0_inMemory h_p0_onDisk h_p0_thn F mem dsk fresh young dropped released owed counted inMemory thn moved onDisk' ⟨cf, hr, hlk, hK, hN, hA⟩ x1 t0 v55 onDisk h H locs ls (lv_sub hl [1, 2, 3, 0] rfl) hP hD hS
  · rw [if_neg hc] at h
    refine lv_aload_n hx hb d_R_spread_33 rfl (lv_at hl 1 rfl) ?_
    refine va_get (D := D) (ci := 2) (v := .ref h_p0_d) (C := R_R) (T := F_R) (N := 12) hx hb ht in_R hown hK hP 0 rfl rfl 1 (by decide) (ht _ f_R_13) (fun _ h9 => h9) rfl d_R_spread_34 ?_
    refine lv_iload_n hx hb d_R_spread_37 rfl (lv_at hl 4 rfl) ?_
    refine lv_iconst (v := (nI 2)) hx hb d_R_spread_38 (by decide) ?_
    obtain ⟨r39, h39, h⟩ := bd_some h
    refine wk_Si (As := [.int x2, .int (nI 2)]) (rest := [.ref h_p0_d]) (wc := []) (w1 := []) (wr := [(h_p0, .inr (2, [.ref h_p0_m, .ref h_p0_d, .ref h_p0_fresh, .ref h_p0_young, .ref h_p0_dropped, .ref h_p0_released, .ref h_p0_owed, .ref h_p0_counted, .ref h_p0_inMemory, .ref h_p0_onDisk, .ref h_p0_thn, .int moved])), (h_p0_m, .inl (cI, 1080, .inl mem)), (h_p0_d, .inl (cI, 1080, .inl dsk)), (h_p0_fresh, .inl (cZ, 36, .inl fresh)), (h_p0_young, .inl (cZ, 288, .inl young)), (h_p0_dropped, .inl (cI, 36, .inl dropped)), (h_p0_released, .inl (cZ, 18, .inl released)), (h_p0_owed, .inl (cI, 18, .inl owed)), (h_p0_counted, .inl (cI, 18, .inl counted)), (h_p0_inMemory, .inl (cZ, 18, .inl inMemory)), (h_p0_onDisk, .inl (cZ, 18, .inl onDisk)), (h_p0_thn, .inl (cZ, 18, .inl thn))]) (wz := (w_R cI cZ h_p0 h_p0_m h_p0_d h_p0_fresh h_p0_young h_p0_dropped h_p0_released h_p0_owed h_p0_counted h_p0_inMemory h_p0_onDisk h_p0_thn mem dsk fresh young dropped released owed counted inMemory onDisk thn moved)) cf hK hN hA (c_R_at l D cI cZ 0 x2 (nI 2) r39 h39) k_R_44 ⟨rfl, rfl, by decide, by decide⟩ hl hP hD hS [] [0, 1, 2, 3, 4, 5, 6, 7, 8, 9, 10, 11] [0, 1, 2, 3, 4, 5, 6, 7, 8, 9, 10, 11] rfl rfl rfl (by decide) rfl rfl rfl rfl rfl (Nat.le_of_ble_eq_true rfl) rfl d_R_spread_39 (fun H locs hP hD hS => ?_)
    obtain ⟨hin, h⟩ := gr_some h
    refine va_iald hx hb hK hP 2 0 rfl rfl hin d_R_spread_42 ?_
    generalize dsk r39.toNatClampNeg = v42 at h ⊢
    refine lv_goto hx hb d_R_spread_43 rfl ?_
    exact w_R_spread_onDisk_56 h_p0 h_p0_m h_p0_d h_p0_fresh h_p0_young h_p0_dropped h_p0_released h_p0_owed h_p0_counted h_p0_inMemory h_p0_onDisk h_p0_thn F mem dsk fresh young dropped released owed counted inMemory thn moved onDisk' ⟨cf, hr, hlk, hK, hN, hA⟩ x1 t0 v42 onDisk h H locs ls (lv_sub hl [1, 2, 3, 0] rfl) hP hD hS
set_option maxHeartbeats 4000000 in
set_option maxRecDepth 100000 in
theorem c_R_spread_onDisk (l : Launch) (D : va_G) (cI cZ : ClassId) (h_p0 h_p0_m h_p0_d h_p0_fresh h_p0_young h_p0_dropped h_p0_released h_p0_owed h_p0_counted h_p0_inMemory h_p0_onDisk h_p0_thn : Nat) (F : Nat) (mem : (Nat → Int32)) (dsk : (Nat → Int32)) (fresh : (Nat → Int32)) (young : (Nat → Int32)) (dropped : (Nat → Int32)) (released : (Nat → Int32)) (owed : (Nat → Int32)) (counted : (Nat → Int32)) (inMemory : (Nat → Int32)) (onDisk : (Nat → Int32)) (thn : (Nat → Int32)) (moved : Int32) (onDisk' : (Nat → Int32)) (x1 : Int32) (x2 : Int32) (h : s_R_spread_onDisk F mem dsk fresh x1 x2 onDisk = some onDisk') : sc_v l y_R_spread (o_R_spread :: wA) rm_R_spread D cI cZ [.ref h_p0, .int x1, .int x2, .ref h_p0_onDisk] (w_R cI cZ h_p0 h_p0_m h_p0_d h_p0_fresh h_p0_young h_p0_dropped h_p0_released h_p0_owed h_p0_counted h_p0_inMemory h_p0_onDisk h_p0_thn mem dsk fresh young dropped released owed counted inMemory onDisk thn moved) (w_R cI cZ h_p0 h_p0_m h_p0_d h_p0_fresh h_p0_young h_p0_dropped h_p0_released h_p0_owed h_p0_counted h_p0_inMemory h_p0_onDisk h_p0_thn mem dsk fresh young dropped released owed counted inMemory (onDisk') thn moved) := by
  refine sc_v_of (cc := b_R_spread) (maxL := 8) (ret := none) (by decide) rfl (Nat.le_of_ble_eq_true rfl) ?_
  intro p e s m below meth c A cf hr hlk hK hN hA H locs ls hl hP hD hS
  have hx := cf.1
  have hb := cf.2.1
  have hown := cf.2.2.2.1
  have ht : ∀ w ∈ wA, w.before _ s = true := fun w h => cf.2.2.2.2 w (List.mem_cons_of_mem _ h)
  unfold s_R_spread_onDisk at h
  have hl : lv_has ls 8 [(0, .ref h_p0), (1, .int x1), (2, .int x2), (3, .ref h_p0_onDisk)] := hl
  refine lv_iload_n hx hb d_R_spread_0 rfl (lv_at hl 1 rfl) ?_
  refine lv_if_eq hx hb d_R_spread_1 rfl (fun hc => ?_) (fun hc => ?_)
  · rw [if_pos hc] at h
    refine lv_aload_n hx hb d_R_spread_17 rfl (lv_at hl 0 rfl) ?_
    refine va_get (D := D) (ci := 2) (v := .ref h_p0_m) (C := R_R) (T := F_R) (N := 12) hx hb ht in_R hown hK hP 0 rfl rfl 0 (by decide) (ht _ f_R_7) (fun _ h9 => h9) rfl d_R_spread_18 ?_
    refine lv_iload_n hx hb d_R_spread_21 rfl (lv_at hl 2 rfl) ?_
    refine lv_iconst (v := (nI 0)) hx hb d_R_spread_22 (by decide) ?_
    obtain ⟨r23, h23, h⟩ := bd_some h
    refine wk_Si (As := [.int x2, .int (nI 0)]) (rest := [.ref h_p0_m]) (wc := []) (w1 := []) (wr := [(h_p0, .inr (2, [.ref h_p0_m, .ref h_p0_d, .ref h_p0_fresh, .ref h_p0_young, .ref h_p0_dropped, .ref h_p0_released, .ref h_p0_owed, .ref h_p0_counted, .ref h_p0_inMemory, .ref h_p0_onDisk, .ref h_p0_thn, .int moved])), (h_p0_m, .inl (cI, 1080, .inl mem)), (h_p0_d, .inl (cI, 1080, .inl dsk)), (h_p0_fresh, .inl (cZ, 36, .inl fresh)), (h_p0_young, .inl (cZ, 288, .inl young)), (h_p0_dropped, .inl (cI, 36, .inl dropped)), (h_p0_released, .inl (cZ, 18, .inl released)), (h_p0_owed, .inl (cI, 18, .inl owed)), (h_p0_counted, .inl (cI, 18, .inl counted)), (h_p0_inMemory, .inl (cZ, 18, .inl inMemory)), (h_p0_onDisk, .inl (cZ, 18, .inl onDisk)), (h_p0_thn, .inl (cZ, 18, .inl thn))]) (wz := (w_R cI cZ h_p0 h_p0_m h_p0_d h_p0_fresh h_p0_young h_p0_dropped h_p0_released h_p0_owed h_p0_counted h_p0_inMemory h_p0_onDisk h_p0_thn mem dsk fresh young dropped released owed counted inMemory onDisk thn moved)) cf hK hN hA (c_R_at l D cI cZ 0 x2 (nI 0) r23 h23) k_R_44 ⟨rfl, rfl, by decide, by decide⟩ hl hP hD hS [] [0, 1, 2, 3, 4, 5, 6, 7, 8, 9, 10, 11] [0, 1, 2, 3, 4, 5, 6, 7, 8, 9, 10, 11] rfl rfl rfl (by decide) rfl rfl rfl rfl rfl (Nat.le_of_ble_eq_true rfl) rfl d_R_spread_23 (fun H locs hP hD hS => ?_)
    obtain ⟨hin, h⟩ := gr_some h
    refine va_iald hx hb hK hP 1 0 rfl rfl hin d_R_spread_26 ?_
    generalize mem r23.toNatClampNeg = v26 at h ⊢
    exact w_R_spread_onDisk_27 h_p0 h_p0_m h_p0_d h_p0_fresh h_p0_young h_p0_dropped h_p0_released h_p0_owed h_p0_counted h_p0_inMemory h_p0_onDisk h_p0_thn F mem dsk fresh young dropped released owed counted inMemory thn moved onDisk' ⟨cf, hr, hlk, hK, hN, hA⟩ x1 x2 v26 onDisk h H locs ls (lv_sub hl [0, 3, 1, 2] rfl) hP hD hS
  · rw [if_neg hc] at h
    refine lv_aload_n hx hb d_R_spread_4 rfl (lv_at hl 0 rfl) ?_
    refine va_get (D := D) (ci := 2) (v := .ref h_p0_d) (C := R_R) (T := F_R) (N := 12) hx hb ht in_R hown hK hP 0 rfl rfl 1 (by decide) (ht _ f_R_13) (fun _ h9 => h9) rfl d_R_spread_5 ?_
    refine lv_iload_n hx hb d_R_spread_8 rfl (lv_at hl 2 rfl) ?_
    refine lv_iconst (v := (nI 0)) hx hb d_R_spread_9 (by decide) ?_
    obtain ⟨r10, h10, h⟩ := bd_some h
    refine wk_Si (As := [.int x2, .int (nI 0)]) (rest := [.ref h_p0_d]) (wc := []) (w1 := []) (wr := [(h_p0, .inr (2, [.ref h_p0_m, .ref h_p0_d, .ref h_p0_fresh, .ref h_p0_young, .ref h_p0_dropped, .ref h_p0_released, .ref h_p0_owed, .ref h_p0_counted, .ref h_p0_inMemory, .ref h_p0_onDisk, .ref h_p0_thn, .int moved])), (h_p0_m, .inl (cI, 1080, .inl mem)), (h_p0_d, .inl (cI, 1080, .inl dsk)), (h_p0_fresh, .inl (cZ, 36, .inl fresh)), (h_p0_young, .inl (cZ, 288, .inl young)), (h_p0_dropped, .inl (cI, 36, .inl dropped)), (h_p0_released, .inl (cZ, 18, .inl released)), (h_p0_owed, .inl (cI, 18, .inl owed)), (h_p0_counted, .inl (cI, 18, .inl counted)), (h_p0_inMemory, .inl (cZ, 18, .inl inMemory)), (h_p0_onDisk, .inl (cZ, 18, .inl onDisk)), (h_p0_thn, .inl (cZ, 18, .inl thn))]) (wz := (w_R cI cZ h_p0 h_p0_m h_p0_d h_p0_fresh h_p0_young h_p0_dropped h_p0_released h_p0_owed h_p0_counted h_p0_inMemory h_p0_onDisk h_p0_thn mem dsk fresh young dropped released owed counted inMemory onDisk thn moved)) cf hK hN hA (c_R_at l D cI cZ 0 x2 (nI 0) r10 h10) k_R_44 ⟨rfl, rfl, by decide, by decide⟩ hl hP hD hS [] [0, 1, 2, 3, 4, 5, 6, 7, 8, 9, 10, 11] [0, 1, 2, 3, 4, 5, 6, 7, 8, 9, 10, 11] rfl rfl rfl (by decide) rfl rfl rfl rfl rfl (Nat.le_of_ble_eq_true rfl) rfl d_R_spread_10 (fun H locs hP hD hS => ?_)
    obtain ⟨hin, h⟩ := gr_some h
    refine va_iald hx hb hK hP 2 0 rfl rfl hin d_R_spread_13 ?_
    generalize dsk r10.toNatClampNeg = v13 at h ⊢
    refine lv_goto hx hb d_R_spread_14 rfl ?_
    exact w_R_spread_onDisk_27 h_p0 h_p0_m h_p0_d h_p0_fresh h_p0_young h_p0_dropped h_p0_released h_p0_owed h_p0_counted h_p0_inMemory h_p0_onDisk h_p0_thn F mem dsk fresh young dropped released owed counted inMemory thn moved onDisk' ⟨cf, hr, hlk, hK, hN, hA⟩ x1 x2 v13 onDisk h H locs ls (lv_sub hl [0, 3, 1, 2] rfl) hP hD hS
set_option maxHeartbeats 4000000 in
set_option maxRecDepth 100000 in
theorem w_R_below_onDisk_11 {p : Program} {l : Launch} {e : Env} {s : State} {m : MethodId} {args : Array Value} {below : List Frame} {meth : Method} {c : Code} {D : va_G} {cI cZ : ClassId} {A : Nat → Prop} (h_p0 h_p0_m h_p0_d h_p0_fresh h_p0_young h_p0_dropped h_p0_released h_p0_owed h_p0_counted h_p0_inMemory h_p0_onDisk h_p0_thn : Nat) (F : Nat) (mem : (Nat → Int32)) (dsk : (Nat → Int32)) (fresh : (Nat → Int32)) (young : (Nat → Int32)) (dropped : (Nat → Int32)) (released : (Nat → Int32)) (owed : (Nat → Int32)) (counted : (Nat → Int32)) (inMemory : (Nat → Int32)) (thn : (Nat → Int32)) (moved : Int32) (onDisk' : (Nat → Int32)) (k2 : Int32 → Int32 → (Nat → Int32) → Option ((Nat → Int32))) (cx : cx_ok p s m args meth c b_R_below 5 o_R_below "OrderedVolumeModel" none D cI cZ A) (h2 : (∀ (x1 : Int32) (x3 : Int32) (onDisk : (Nat → Int32)), k2 x1 x3 onDisk = some onDisk' → wk_G p l e rm_R_below s m args below meth c (sc_Qv below args s D cI cZ A (w_R cI cZ h_p0 h_p0_m h_p0_d h_p0_fresh h_p0_young h_p0_dropped h_p0_released h_p0_owed h_p0_counted h_p0_inMemory h_p0_onDisk h_p0_thn mem dsk fresh young dropped released owed counted inMemory (onDisk') thn moved)) D A 5 2 [] [(0, .ref h_p0), (2, .ref h_p0_onDisk), (1, .int x1), (3, .int x3)] (w_R cI cZ h_p0 h_p0_m h_p0_d h_p0_fresh h_p0_young h_p0_dropped h_p0_released h_p0_owed h_p0_counted h_p0_inMemory h_p0_onDisk h_p0_thn mem dsk fresh young dropped released owed counted inMemory onDisk thn moved))) : ∀ (n : Nat) (x1 : Int32) (x3 : Int32) (x4 : Int32) (onDisk : (Nat → Int32)), s_R_below_onDisk_11 F mem dsk fresh k2 n x1 x3 x4 onDisk = some onDisk' → wk_G p l e rm_R_below s m args below meth c (sc_Qv below args s D cI cZ A (w_R cI cZ h_p0 h_p0_m h_p0_d h_p0_fresh h_p0_young h_p0_dropped h_p0_released h_p0_owed h_p0_counted h_p0_inMemory h_p0_onDisk h_p0_thn mem dsk fresh young dropped released owed counted inMemory (onDisk') thn moved)) D A 5 11 [] [(0, .ref h_p0), (2, .ref h_p0_onDisk), (1, .int x1), (3, .int x3), (4, .int x4)] (w_R cI cZ h_p0 h_p0_m h_p0_d h_p0_fresh h_p0_young h_p0_dropped h_p0_released h_p0_owed h_p0_counted h_p0_inMemory h_p0_onDisk h_p0_thn mem dsk fresh young dropped released owed counted inMemory onDisk thn moved) := by
  obtain ⟨cf, hr, hlk, hK, hN, hA⟩ := cx
  have hx := cf.1
  have hb := cf.2.1
  have hown := cf.2.2.2.1
  have ht : ∀ w ∈ wA, w.before args s = true := fun w h => cf.2.2.2.2 w (List.mem_cons_of_mem _ h)
  intro n
  induction n with
  | zero => intro x1 x3 x4 onDisk h; cases (show (none : Option ((Nat → Int32))) = some _ from h)
  | succ n ih =>
    intro x1 x3 x4 onDisk h H locs ls hl hP hD hS
    unfold s_R_below_onDisk_11 at h
    refine lv_iload hx hb d_R_below_11 (lv_at hl 4 rfl) ?_
    refine lv_bipush (v := (nI 18)) hx hb d_R_below_13 (by decide) ?_
    refine lv_icmp_ge hx hb d_R_below_15 rfl (fun hc => ?_) (fun hc => ?_)
    · rw [if_pos hc] at h
      refine lv_iinc (k := 3) (v := (x3 + (nI 1))) (lv' := [(3, .int (x3 + (nI 1))), (0, .ref h_p0), (2, .ref h_p0_onDisk), (1, .int x1), (4, .int x4)]) hx hb d_R_below_39 hl rfl rfl (by decide) rfl (fun ls hl => ?_)
      refine lv_goto hx hb d_R_below_42 rfl ?_
      exact h2 x1 (x3 + (nI 1)) onDisk h H locs ls (lv_sub hl [1, 2, 3, 0] rfl) hP hD hS
    · rw [if_neg hc] at h
      refine lv_aload_n hx hb d_R_below_18 rfl (lv_at hl 1 rfl) ?_
      refine lv_iload hx hb d_R_below_19 (lv_at hl 4 rfl) ?_
      obtain ⟨hin, h⟩ := gr_some h
      refine va_zald hx hb hK hP 10 1 rfl rfl hin d_R_below_21 ?_
      generalize onDisk x4.toNatClampNeg = v21 at h ⊢
      refine lv_if_eq hx hb d_R_below_22 rfl (fun hc => ?_) (fun hc => ?_)
      · rw [if_pos hc] at h
        refine lv_iinc (k := 4) (v := (x4 + (nI 1))) (lv' := [(4, .int (x4 + (nI 1))), (0, .ref h_p0), (2, .ref h_p0_onDisk), (1, .int x1), (3, .int x3)]) hx hb d_R_below_33 hl rfl rfl (by decide) rfl (fun ls hl => ?_)
        refine lv_goto hx hb d_R_below_36 rfl ?_
        exact ih x1 x3 (x4 + (nI 1)) onDisk h H locs ls (lv_sub hl [1, 2, 3, 4, 0] rfl) hP hD hS
      · rw [if_neg hc] at h
        refine lv_aload_n hx hb d_R_below_25 rfl (lv_at hl 0 rfl) ?_
        refine lv_iload_n hx hb d_R_below_26 rfl (lv_at hl 2 rfl) ?_
        refine lv_iload hx hb d_R_below_27 (lv_at hl 4 rfl) ?_
        refine lv_aload_n hx hb d_R_below_29 rfl (lv_at hl 1 rfl) ?_
        obtain ⟨onDisk_30, h30, h⟩ := bd_some h
        refine wk_Vv (As := [.int x1, .int x4, .ref h_p0_onDisk]) (rest := []) (wc := (w_R cI cZ h_p0 h_p0_m h_p0_d h_p0_fresh h_p0_young h_p0_dropped h_p0_released h_p0_owed h_p0_counted h_p0_inMemory h_p0_onDisk h_p0_thn mem dsk fresh young dropped released owed counted inMemory onDisk thn moved)) (w1 := (w_R cI cZ h_p0 h_p0_m h_p0_d h_p0_fresh h_p0_young h_p0_dropped h_p0_released h_p0_owed h_p0_counted h_p0_inMemory h_p0_onDisk h_p0_thn mem dsk fresh young dropped released owed counted inMemory onDisk_30 thn moved)) (wr := []) (wz := (w_R cI cZ h_p0 h_p0_m h_p0_d h_p0_fresh h_p0_young h_p0_dropped h_p0_released h_p0_owed h_p0_counted h_p0_inMemory h_p0_onDisk h_p0_thn mem dsk fresh young dropped released owed counted inMemory onDisk_30 thn moved)) cf hK hN hA (c_R_spread_onDisk l D cI cZ h_p0 h_p0_m h_p0_d h_p0_fresh h_p0_young h_p0_dropped h_p0_released h_p0_owed h_p0_counted h_p0_inMemory h_p0_onDisk h_p0_thn F mem dsk fresh young dropped released owed counted inMemory onDisk thn moved onDisk_30 x1 x4 h30) k_R_62 ⟨rfl, rfl, by decide, by decide⟩ 2 rfl rfl rfl hl hP hD hS [0, 1, 2, 3, 4, 5, 6, 7, 8, 9, 10, 11] [] [0, 1, 2, 3, 4, 5, 6, 7, 8, 9, 10, 11] rfl rfl rfl (by decide) rfl rfl rfl rfl rfl (Nat.le_of_ble_eq_true rfl) rfl d_R_below_30 (fun H locs hP hD hS => ?_)
        refine lv_iinc (k := 4) (v := (x4 + (nI 1))) (lv' := [(4, .int (x4 + (nI 1))), (0, .ref h_p0), (2, .ref h_p0_onDisk), (1, .int x1), (3, .int x3)]) hx hb d_R_below_33 hl rfl rfl (by decide) rfl (fun ls hl => ?_)
        refine lv_goto hx hb d_R_below_36 rfl ?_
        exact ih x1 x3 (x4 + (nI 1)) onDisk_30 h H locs ls (lv_sub hl [1, 2, 3, 4, 0] rfl) hP hD hS
set_option maxHeartbeats 4000000 in
set_option maxRecDepth 100000 in
theorem w_R_below_onDisk_2 {p : Program} {l : Launch} {e : Env} {s : State} {m : MethodId} {args : Array Value} {below : List Frame} {meth : Method} {c : Code} {D : va_G} {cI cZ : ClassId} {A : Nat → Prop} (h_p0 h_p0_m h_p0_d h_p0_fresh h_p0_young h_p0_dropped h_p0_released h_p0_owed h_p0_counted h_p0_inMemory h_p0_onDisk h_p0_thn : Nat) (F : Nat) (mem : (Nat → Int32)) (dsk : (Nat → Int32)) (fresh : (Nat → Int32)) (young : (Nat → Int32)) (dropped : (Nat → Int32)) (released : (Nat → Int32)) (owed : (Nat → Int32)) (counted : (Nat → Int32)) (inMemory : (Nat → Int32)) (thn : (Nat → Int32)) (moved : Int32) (onDisk' : (Nat → Int32)) (cx : cx_ok p s m args meth c b_R_below 5 o_R_below "OrderedVolumeModel" none D cI cZ A) : ∀ (n : Nat) (x1 : Int32) (x3 : Int32) (onDisk : (Nat → Int32)), s_R_below_onDisk_2 F mem dsk fresh n x1 x3 onDisk = some onDisk' → wk_G p l e rm_R_below s m args below meth c (sc_Qv below args s D cI cZ A (w_R cI cZ h_p0 h_p0_m h_p0_d h_p0_fresh h_p0_young h_p0_dropped h_p0_released h_p0_owed h_p0_counted h_p0_inMemory h_p0_onDisk h_p0_thn mem dsk fresh young dropped released owed counted inMemory (onDisk') thn moved)) D A 5 2 [] [(0, .ref h_p0), (2, .ref h_p0_onDisk), (1, .int x1), (3, .int x3)] (w_R cI cZ h_p0 h_p0_m h_p0_d h_p0_fresh h_p0_young h_p0_dropped h_p0_released h_p0_owed h_p0_counted h_p0_inMemory h_p0_onDisk h_p0_thn mem dsk fresh young dropped released owed counted inMemory onDisk thn moved) := by
  obtain ⟨cf, hr, hlk, hK, hN, hA⟩ := cx
  have hx := cf.1
  have hb := cf.2.1
  have hown := cf.2.2.2.1
  have ht : ∀ w ∈ wA, w.before args s = true := fun w h => cf.2.2.2.2 w (List.mem_cons_of_mem _ h)
  intro n
  induction n with
  | zero => intro x1 x3 onDisk h; cases (show (none : Option ((Nat → Int32))) = some _ from h)
  | succ n ih =>
    intro x1 x3 onDisk h H locs ls hl hP hD hS
    unfold s_R_below_onDisk_2 at h
    refine lv_iload_n hx hb d_R_below_2 rfl (lv_at hl 3 rfl) ?_
    refine lv_bipush (v := (nI 18)) hx hb d_R_below_3 (by decide) ?_
    refine lv_icmp_ge hx hb d_R_below_5 rfl (fun hc => ?_) (fun hc => ?_)
    · rw [if_pos hc] at h
      cases h
      exact sc_vret cf hr hlk hK hP hD hS d_R_below_45
    · rw [if_neg hc] at h
      refine lv_iconst (v := (nI 0)) hx hb d_R_below_8 (by decide) ?_
      refine lv_istore (lv' := [(4, .int (nI 0)), (0, .ref h_p0), (2, .ref h_p0_onDisk), (1, .int x1), (3, .int x3)]) hx hb d_R_below_9 hl (by decide) rfl (fun ls hl => ?_)
      exact w_R_below_onDisk_11 h_p0 h_p0_m h_p0_d h_p0_fresh h_p0_young h_p0_dropped h_p0_released h_p0_owed h_p0_counted h_p0_inMemory h_p0_onDisk h_p0_thn F mem dsk fresh young dropped released owed counted inMemory thn moved onDisk' _ ⟨cf, hr, hlk, hK, hN, hA⟩ ih F x1 x3 (nI 0) onDisk h H locs ls (lv_sub hl [1, 2, 3, 4, 0] rfl) hP hD hS
set_option maxHeartbeats 4000000 in
set_option maxRecDepth 100000 in
theorem c_R_below_onDisk (l : Launch) (D : va_G) (cI cZ : ClassId) (h_p0 h_p0_m h_p0_d h_p0_fresh h_p0_young h_p0_dropped h_p0_released h_p0_owed h_p0_counted h_p0_inMemory h_p0_onDisk h_p0_thn : Nat) (F : Nat) (mem : (Nat → Int32)) (dsk : (Nat → Int32)) (fresh : (Nat → Int32)) (young : (Nat → Int32)) (dropped : (Nat → Int32)) (released : (Nat → Int32)) (owed : (Nat → Int32)) (counted : (Nat → Int32)) (inMemory : (Nat → Int32)) (onDisk : (Nat → Int32)) (thn : (Nat → Int32)) (moved : Int32) (onDisk' : (Nat → Int32)) (x1 : Int32) (h : s_R_below_onDisk F mem dsk fresh x1 onDisk = some onDisk') : sc_v l y_R_below (o_R_below :: wA) rm_R_below D cI cZ [.ref h_p0, .int x1, .ref h_p0_onDisk] (w_R cI cZ h_p0 h_p0_m h_p0_d h_p0_fresh h_p0_young h_p0_dropped h_p0_released h_p0_owed h_p0_counted h_p0_inMemory h_p0_onDisk h_p0_thn mem dsk fresh young dropped released owed counted inMemory onDisk thn moved) (w_R cI cZ h_p0 h_p0_m h_p0_d h_p0_fresh h_p0_young h_p0_dropped h_p0_released h_p0_owed h_p0_counted h_p0_inMemory h_p0_onDisk h_p0_thn mem dsk fresh young dropped released owed counted inMemory (onDisk') thn moved) := by
  refine sc_v_of (cc := b_R_below) (maxL := 5) (ret := none) (by decide) rfl (Nat.le_of_ble_eq_true rfl) ?_
  intro p e s m below meth c A cf hr hlk hK hN hA H locs ls hl hP hD hS
  have hx := cf.1
  have hb := cf.2.1
  have hown := cf.2.2.2.1
  have ht : ∀ w ∈ wA, w.before _ s = true := fun w h => cf.2.2.2.2 w (List.mem_cons_of_mem _ h)
  unfold s_R_below_onDisk at h
  have hl : lv_has ls 5 [(0, .ref h_p0), (1, .int x1), (2, .ref h_p0_onDisk)] := hl
  refine lv_iconst (v := (nI 0)) hx hb d_R_below_0 (by decide) ?_
  refine lv_istore_n (lv' := [(3, .int (nI 0)), (0, .ref h_p0), (1, .int x1), (2, .ref h_p0_onDisk)]) hx hb d_R_below_1 rfl hl (by decide) rfl (fun ls hl => ?_)
  exact w_R_below_onDisk_2 h_p0 h_p0_m h_p0_d h_p0_fresh h_p0_young h_p0_dropped h_p0_released h_p0_owed h_p0_counted h_p0_inMemory h_p0_onDisk h_p0_thn F mem dsk fresh young dropped released owed counted inMemory thn moved onDisk' ⟨cf, hr, hlk, hK, hN, hA⟩ F x1 (nI 0) onDisk h H locs ls (lv_sub hl [1, 3, 2, 0] rfl) hP hD hS
set_option maxHeartbeats 4000000 in
set_option maxRecDepth 100000 in
theorem w_R_tree_onDisk_19 {p : Program} {l : Launch} {e : Env} {s : State} {m : MethodId} {args : Array Value} {below : List Frame} {meth : Method} {c : Code} {D : va_G} {cI cZ : ClassId} {A : Nat → Prop} (h_p0 h_p0_m h_p0_d h_p0_fresh h_p0_young h_p0_dropped h_p0_released h_p0_owed h_p0_counted h_p0_inMemory h_p0_onDisk h_p0_thn : Nat) (F : Nat) (mem : (Nat → Int32)) (dsk : (Nat → Int32)) (fresh : (Nat → Int32)) (young : (Nat → Int32)) (dropped : (Nat → Int32)) (released : (Nat → Int32)) (owed : (Nat → Int32)) (counted : (Nat → Int32)) (inMemory : (Nat → Int32)) (thn : (Nat → Int32)) (moved : Int32) (onDisk' : (Nat → Int32)) (k2 : Int32 → Int32 → (Nat → Int32) → Option ((Nat → Int32))) (cx : cx_ok p s m args meth c b_R_tree 4 o_R_tree "OrderedVolumeModel" none D cI cZ A) (h2 : (∀ (x1 : Int32) (x3 : Int32) (onDisk : (Nat → Int32)), k2 x1 x3 onDisk = some onDisk' → wk_G p l e rm_R_tree s m args below meth c (sc_Qv below args s D cI cZ A (w_R cI cZ h_p0 h_p0_m h_p0_d h_p0_fresh h_p0_young h_p0_dropped h_p0_released h_p0_owed h_p0_counted h_p0_inMemory h_p0_onDisk h_p0_thn mem dsk fresh young dropped released owed counted inMemory (onDisk') thn moved)) D A 4 2 [] [(0, .ref h_p0), (2, .ref h_p0_onDisk), (1, .int x1), (3, .int x3)] (w_R cI cZ h_p0 h_p0_m h_p0_d h_p0_fresh h_p0_young h_p0_dropped h_p0_released h_p0_owed h_p0_counted h_p0_inMemory h_p0_onDisk h_p0_thn mem dsk fresh young dropped released owed counted inMemory onDisk thn moved))) : ∀ (x1 : Int32) (x3 : Int32) (t1 : Int32) (t2 : Int32) (onDisk : (Nat → Int32)), s_R_tree_onDisk_19 F mem dsk fresh k2 x1 x3 t1 t2 onDisk = some onDisk' → wk_G p l e rm_R_tree s m args below meth c (sc_Qv below args s D cI cZ A (w_R cI cZ h_p0 h_p0_m h_p0_d h_p0_fresh h_p0_young h_p0_dropped h_p0_released h_p0_owed h_p0_counted h_p0_inMemory h_p0_onDisk h_p0_thn mem dsk fresh young dropped released owed counted inMemory (onDisk') thn moved)) D A 4 19 [.int t2, .int t1, .ref h_p0_onDisk] [(0, .ref h_p0), (2, .ref h_p0_onDisk), (1, .int x1), (3, .int x3)] (w_R cI cZ h_p0 h_p0_m h_p0_d h_p0_fresh h_p0_young h_p0_dropped h_p0_released h_p0_owed h_p0_counted h_p0_inMemory h_p0_onDisk h_p0_thn mem dsk fresh young dropped released owed counted inMemory onDisk thn moved) := by
  obtain ⟨cf, hr, hlk, hK, hN, hA⟩ := cx
  have hx := cf.1
  have hb := cf.2.1
  have hown := cf.2.2.2.1
  have ht : ∀ w ∈ wA, w.before args s = true := fun w h => cf.2.2.2.2 w (List.mem_cons_of_mem _ h)
  intro x1 x3 t1 t2 onDisk h H locs ls hl hP hD hS
  unfold s_R_tree_onDisk_19 at h
  obtain ⟨hin, h⟩ := ga_some h
  refine va_zast hx hb hK hP hD hS 10 1 rfl rfl hin d_R_tree_19 (fun H locs hP hD hS => ?_)
  have hP : va_P D clA (w_R cI cZ h_p0 h_p0_m h_p0_d h_p0_fresh h_p0_young h_p0_dropped h_p0_released h_p0_owed h_p0_counted h_p0_inMemory h_p0_onDisk h_p0_thn mem dsk fresh young dropped released owed counted inMemory (upd onDisk t1.toNatClampNeg (vp_nar .boolean t2)) thn moved) H := hP
  have hD : va_D A (w_R cI cZ h_p0 h_p0_m h_p0_d h_p0_fresh h_p0_young h_p0_dropped h_p0_released h_p0_owed h_p0_counted h_p0_inMemory h_p0_onDisk h_p0_thn mem dsk fresh young dropped released owed counted inMemory (upd onDisk t1.toNatClampNeg (vp_nar .boolean t2)) thn moved) := hD
  refine lv_iinc (k := 3) (v := (x3 + (nI 1))) (lv' := [(3, .int (x3 + (nI 1))), (0, .ref h_p0), (2, .ref h_p0_onDisk), (1, .int x1)]) hx hb d_R_tree_20 hl rfl rfl (by decide) rfl (fun ls hl => ?_)
  refine lv_goto hx hb d_R_tree_23 rfl ?_
  exact h2 x1 (x3 + (nI 1)) (upd onDisk t1.toNatClampNeg (vp_nar .boolean t2)) h H locs ls (lv_sub hl [1, 2, 3, 0] rfl) hP hD hS
set_option maxHeartbeats 4000000 in
set_option maxRecDepth 100000 in
theorem w_R_tree_onDisk_2 {p : Program} {l : Launch} {e : Env} {s : State} {m : MethodId} {args : Array Value} {below : List Frame} {meth : Method} {c : Code} {D : va_G} {cI cZ : ClassId} {A : Nat → Prop} (h_p0 h_p0_m h_p0_d h_p0_fresh h_p0_young h_p0_dropped h_p0_released h_p0_owed h_p0_counted h_p0_inMemory h_p0_onDisk h_p0_thn : Nat) (F : Nat) (mem : (Nat → Int32)) (dsk : (Nat → Int32)) (fresh : (Nat → Int32)) (young : (Nat → Int32)) (dropped : (Nat → Int32)) (released : (Nat → Int32)) (owed : (Nat → Int32)) (counted : (Nat → Int32)) (inMemory : (Nat → Int32)) (thn : (Nat → Int32)) (moved : Int32) (onDisk' : (Nat → Int32)) (cx : cx_ok p s m args meth c b_R_tree 4 o_R_tree "OrderedVolumeModel" none D cI cZ A) : ∀ (n : Nat) (x1 : Int32) (x3 : Int32) (onDisk : (Nat → Int32)), s_R_tree_onDisk_2 F mem dsk fresh n x1 x3 onDisk = some onDisk' → wk_G p l e rm_R_tree s m args below meth c (sc_Qv below args s D cI cZ A (w_R cI cZ h_p0 h_p0_m h_p0_d h_p0_fresh h_p0_young h_p0_dropped h_p0_released h_p0_owed h_p0_counted h_p0_inMemory h_p0_onDisk h_p0_thn mem dsk fresh young dropped released owed counted inMemory (onDisk') thn moved)) D A 4 2 [] [(0, .ref h_p0), (2, .ref h_p0_onDisk), (1, .int x1), (3, .int x3)] (w_R cI cZ h_p0 h_p0_m h_p0_d h_p0_fresh h_p0_young h_p0_dropped h_p0_released h_p0_owed h_p0_counted h_p0_inMemory h_p0_onDisk h_p0_thn mem dsk fresh young dropped released owed counted inMemory onDisk thn moved) := by
  obtain ⟨cf, hr, hlk, hK, hN, hA⟩ := cx
  have hx := cf.1
  have hb := cf.2.1
  have hown := cf.2.2.2.1
  have ht : ∀ w ∈ wA, w.before args s = true := fun w h => cf.2.2.2.2 w (List.mem_cons_of_mem _ h)
  intro n
  induction n with
  | zero => intro x1 x3 onDisk h; cases (show (none : Option ((Nat → Int32))) = some _ from h)
  | succ n ih =>
    intro x1 x3 onDisk h H locs ls hl hP hD hS
    unfold s_R_tree_onDisk_2 at h
    refine lv_iload_n hx hb d_R_tree_2 rfl (lv_at hl 3 rfl) ?_
    refine lv_bipush (v := (nI 18)) hx hb d_R_tree_3 (by decide) ?_
    refine lv_icmp_ge hx hb d_R_tree_5 rfl (fun hc => ?_) (fun hc => ?_)
    · rw [if_pos hc] at h
      refine lv_aload_n hx hb d_R_tree_26 rfl (lv_at hl 0 rfl) ?_
      refine lv_iload_n hx hb d_R_tree_27 rfl (lv_at hl 2 rfl) ?_
      refine lv_aload_n hx hb d_R_tree_28 rfl (lv_at hl 1 rfl) ?_
      obtain ⟨onDisk_29, h29, h⟩ := bd_some h
      refine wk_Vv (As := [.int x1, .ref h_p0_onDisk]) (rest := []) (wc := (w_R cI cZ h_p0 h_p0_m h_p0_d h_p0_fresh h_p0_young h_p0_dropped h_p0_released h_p0_owed h_p0_counted h_p0_inMemory h_p0_onDisk h_p0_thn mem dsk fresh young dropped released owed counted inMemory onDisk thn moved)) (w1 := (w_R cI cZ h_p0 h_p0_m h_p0_d h_p0_fresh h_p0_young h_p0_dropped h_p0_released h_p0_owed h_p0_counted h_p0_inMemory h_p0_onDisk h_p0_thn mem dsk fresh young dropped released owed counted inMemory onDisk_29 thn moved)) (wr := []) (wz := (w_R cI cZ h_p0 h_p0_m h_p0_d h_p0_fresh h_p0_young h_p0_dropped h_p0_released h_p0_owed h_p0_counted h_p0_inMemory h_p0_onDisk h_p0_thn mem dsk fresh young dropped released owed counted inMemory onDisk_29 thn moved)) cf hK hN hA (c_R_below_onDisk l D cI cZ h_p0 h_p0_m h_p0_d h_p0_fresh h_p0_young h_p0_dropped h_p0_released h_p0_owed h_p0_counted h_p0_inMemory h_p0_onDisk h_p0_thn F mem dsk fresh young dropped released owed counted inMemory onDisk thn moved onDisk_29 x1 h29) k_R_58 ⟨rfl, rfl, by decide, by decide⟩ 2 rfl rfl rfl hl hP hD hS [0, 1, 2, 3, 4, 5, 6, 7, 8, 9, 10, 11] [] [0, 1, 2, 3, 4, 5, 6, 7, 8, 9, 10, 11] rfl rfl rfl (by decide) rfl rfl rfl rfl rfl (Nat.le_of_ble_eq_true rfl) rfl d_R_tree_29 (fun H locs hP hD hS => ?_)
      cases h
      exact sc_vret cf hr hlk hK hP hD hS d_R_tree_32
    · rw [if_neg hc] at h
      refine lv_aload_n hx hb d_R_tree_8 rfl (lv_at hl 1 rfl) ?_
      refine lv_iload_n hx hb d_R_tree_9 rfl (lv_at hl 3 rfl) ?_
      refine lv_iload_n hx hb d_R_tree_10 rfl (lv_at hl 3 rfl) ?_
      refine lv_if_ne hx hb d_R_tree_11 rfl (fun hc => ?_) (fun hc => ?_)
      · rw [if_neg hc] at h
        refine lv_iconst (v := (nI 0)) hx hb d_R_tree_18 (by decide) ?_
        exact w_R_tree_onDisk_19 h_p0 h_p0_m h_p0_d h_p0_fresh h_p0_young h_p0_dropped h_p0_released h_p0_owed h_p0_counted h_p0_inMemory h_p0_onDisk h_p0_thn F mem dsk fresh young dropped released owed counted inMemory thn moved onDisk' _ ⟨cf, hr, hlk, hK, hN, hA⟩ ih x1 x3 x3 (nI 0) onDisk h H locs ls (lv_sub hl [0, 1, 2, 3] rfl) hP hD hS
      · rw [if_pos hc] at h
        refine lv_iconst (v := (nI 1)) hx hb d_R_tree_14 (by decide) ?_
        refine lv_goto hx hb d_R_tree_15 rfl ?_
        exact w_R_tree_onDisk_19 h_p0 h_p0_m h_p0_d h_p0_fresh h_p0_young h_p0_dropped h_p0_released h_p0_owed h_p0_counted h_p0_inMemory h_p0_onDisk h_p0_thn F mem dsk fresh young dropped released owed counted inMemory thn moved onDisk' _ ⟨cf, hr, hlk, hK, hN, hA⟩ ih x1 x3 x3 (nI 1) onDisk h H locs ls (lv_sub hl [0, 1, 2, 3] rfl) hP hD hS
set_option maxHeartbeats 4000000 in
set_option maxRecDepth 100000 in
theorem c_R_tree_onDisk (l : Launch) (D : va_G) (cI cZ : ClassId) (h_p0 h_p0_m h_p0_d h_p0_fresh h_p0_young h_p0_dropped h_p0_released h_p0_owed h_p0_counted h_p0_inMemory h_p0_onDisk h_p0_thn : Nat) (F : Nat) (mem : (Nat → Int32)) (dsk : (Nat → Int32)) (fresh : (Nat → Int32)) (young : (Nat → Int32)) (dropped : (Nat → Int32)) (released : (Nat → Int32)) (owed : (Nat → Int32)) (counted : (Nat → Int32)) (inMemory : (Nat → Int32)) (onDisk : (Nat → Int32)) (thn : (Nat → Int32)) (moved : Int32) (onDisk' : (Nat → Int32)) (x1 : Int32) (h : s_R_tree_onDisk F mem dsk fresh x1 onDisk = some onDisk') : sc_v l y_R_tree (o_R_tree :: wA) rm_R_tree D cI cZ [.ref h_p0, .int x1, .ref h_p0_onDisk] (w_R cI cZ h_p0 h_p0_m h_p0_d h_p0_fresh h_p0_young h_p0_dropped h_p0_released h_p0_owed h_p0_counted h_p0_inMemory h_p0_onDisk h_p0_thn mem dsk fresh young dropped released owed counted inMemory onDisk thn moved) (w_R cI cZ h_p0 h_p0_m h_p0_d h_p0_fresh h_p0_young h_p0_dropped h_p0_released h_p0_owed h_p0_counted h_p0_inMemory h_p0_onDisk h_p0_thn mem dsk fresh young dropped released owed counted inMemory (onDisk') thn moved) := by
  refine sc_v_of (cc := b_R_tree) (maxL := 4) (ret := none) (by decide) rfl (Nat.le_of_ble_eq_true rfl) ?_
  intro p e s m below meth c A cf hr hlk hK hN hA H locs ls hl hP hD hS
  have hx := cf.1
  have hb := cf.2.1
  have hown := cf.2.2.2.1
  have ht : ∀ w ∈ wA, w.before _ s = true := fun w h => cf.2.2.2.2 w (List.mem_cons_of_mem _ h)
  unfold s_R_tree_onDisk at h
  have hl : lv_has ls 4 [(0, .ref h_p0), (1, .int x1), (2, .ref h_p0_onDisk)] := hl
  refine lv_iconst (v := (nI 0)) hx hb d_R_tree_0 (by decide) ?_
  refine lv_istore_n (lv' := [(3, .int (nI 0)), (0, .ref h_p0), (1, .int x1), (2, .ref h_p0_onDisk)]) hx hb d_R_tree_1 rfl hl (by decide) rfl (fun ls hl => ?_)
  exact w_R_tree_onDisk_2 h_p0 h_p0_m h_p0_d h_p0_fresh h_p0_young h_p0_dropped h_p0_released h_p0_owed h_p0_counted h_p0_inMemory h_p0_onDisk h_p0_thn F mem dsk fresh young dropped released owed counted inMemory thn moved onDisk' ⟨cf, hr, hlk, hK, hN, hA⟩ F x1 (nI 0) onDisk h H locs ls (lv_sub hl [1, 3, 2, 0] rfl) hP hD hS
set_option maxHeartbeats 4000000 in
set_option maxRecDepth 100000 in
theorem w_R_spread_then_108 {p : Program} {l : Launch} {e : Env} {s : State} {m : MethodId} {args : Array Value} {below : List Frame} {meth : Method} {c : Code} {D : va_G} {cI cZ : ClassId} {A : Nat → Prop} (h_p0 h_p0_m h_p0_d h_p0_fresh h_p0_young h_p0_dropped h_p0_released h_p0_owed h_p0_counted h_p0_inMemory h_p0_onDisk h_p0_thn : Nat) (F : Nat) (mem : (Nat → Int32)) (dsk : (Nat → Int32)) (fresh : (Nat → Int32)) (young : (Nat → Int32)) (dropped : (Nat → Int32)) (released : (Nat → Int32)) (owed : (Nat → Int32)) (counted : (Nat → Int32)) (inMemory : (Nat → Int32)) (onDisk : (Nat → Int32)) (moved : Int32) (thn' : (Nat → Int32)) (k73 : Int32 → Int32 → Int32 → (Nat → Int32) → Option ((Nat → Int32))) (cx : cx_ok p s m args meth c b_R_spread 8 o_R_spread "OrderedVolumeModel" none D cI cZ A) (h73 : (∀ (x1 : Int32) (x5 : Int32) (x6 : Int32) (thn : (Nat → Int32)), k73 x1 x5 x6 thn = some thn' → wk_G p l e rm_R_spread s m args below meth c (sc_Qv below args s D cI cZ A (w_R cI cZ h_p0 h_p0_m h_p0_d h_p0_fresh h_p0_young h_p0_dropped h_p0_released h_p0_owed h_p0_counted h_p0_inMemory h_p0_onDisk h_p0_thn mem dsk fresh young dropped released owed counted inMemory onDisk (thn') moved)) D A 8 73 [] [(0, .ref h_p0), (3, .ref h_p0_thn), (1, .int x1), (5, .int x5), (6, .int x6)] (w_R cI cZ h_p0 h_p0_m h_p0_d h_p0_fresh h_p0_young h_p0_dropped h_p0_released h_p0_owed h_p0_counted h_p0_inMemory h_p0_onDisk h_p0_thn mem dsk fresh young dropped released owed counted inMemory onDisk thn moved))) : ∀ (x1 : Int32) (x5 : Int32) (x6 : Int32) (t0 : Int32) (thn : (Nat → Int32)), s_R_spread_then_108 F mem dsk fresh k73 x1 x5 x6 t0 thn = some thn' → wk_G p l e rm_R_spread s m args below meth c (sc_Qv below args s D cI cZ A (w_R cI cZ h_p0 h_p0_m h_p0_d h_p0_fresh h_p0_young h_p0_dropped h_p0_released h_p0_owed h_p0_counted h_p0_inMemory h_p0_onDisk h_p0_thn mem dsk fresh young dropped released owed counted inMemory onDisk (thn') moved)) D A 8 108 [.int t0] [(0, .ref h_p0), (3, .ref h_p0_thn), (1, .int x1), (5, .int x5), (6, .int x6)] (w_R cI cZ h_p0 h_p0_m h_p0_d h_p0_fresh h_p0_young h_p0_dropped h_p0_released h_p0_owed h_p0_counted h_p0_inMemory h_p0_onDisk h_p0_thn mem dsk fresh young dropped released owed counted inMemory onDisk thn moved) := by
  obtain ⟨cf, hr, hlk, hK, hN, hA⟩ := cx
  have hx := cf.1
  have hb := cf.2.1
  have hown := cf.2.2.2.1
  have ht : ∀ w ∈ wA, w.before args s = true := fun w h => cf.2.2.2.2 w (List.mem_cons_of_mem _ h)
  intro x1 x5 x6 t0 thn h H locs ls hl hP hD hS
  unfold s_R_spread_then_108 at h
  refine lv_istore (lv' := [(7, .int t0), (0, .ref h_p0), (3, .ref h_p0_thn), (1, .int x1), (5, .int x5), (6, .int x6)]) hx hb d_R_spread_108 hl (by decide) rfl (fun ls hl => ?_)
  refine lv_iload hx hb d_R_spread_110 (lv_at hl 0 rfl) ?_
  refine lv_if_eq hx hb d_R_spread_112 rfl (fun hc => ?_) (fun hc => ?_)
  · rw [if_pos hc] at h
    refine lv_iinc (k := 5) (v := (x6 + (nI 1))) (lv' := [(6, .int (x6 + (nI 1))), (7, .int t0), (0, .ref h_p0), (3, .ref h_p0_thn), (1, .int x1), (5, .int x5)]) hx hb d_R_spread_123 hl rfl rfl (by decide) rfl (fun ls hl => ?_)
    refine lv_goto hx hb d_R_spread_126 rfl ?_
    exact h73 x1 x5 (x6 + (nI 1)) thn h H locs ls (lv_sub hl [2, 3, 4, 5, 0] rfl) hP hD hS
  · rw [if_neg hc] at h
    refine lv_aload_n hx hb d_R_spread_115 rfl (lv_at hl 2 rfl) ?_
    refine lv_iload hx hb d_R_spread_116 (lv_at hl 0 rfl) ?_
    refine lv_bipush (v := (nI 32)) hx hb d_R_spread_118 (by decide) ?_
    refine lv_irem hx hb d_R_spread_120 (by decide) ?_
    refine lv_iconst (v := (nI 1)) hx hb d_R_spread_121 (by decide) ?_
    obtain ⟨hin, h⟩ := ga_some h
    refine va_zast hx hb hK hP hD hS 11 1 rfl rfl hin d_R_spread_122 (fun H locs hP hD hS => ?_)
    have hP : va_P D clA (w_R cI cZ h_p0 h_p0_m h_p0_d h_p0_fresh h_p0_young h_p0_dropped h_p0_released h_p0_owed h_p0_counted h_p0_inMemory h_p0_onDisk h_p0_thn mem dsk fresh young dropped released owed counted inMemory onDisk (upd thn (t0 - t0 / (nI 32) * (nI 32)).toNatClampNeg (vp_nar .boolean (nI 1))) moved) H := hP
    have hD : va_D A (w_R cI cZ h_p0 h_p0_m h_p0_d h_p0_fresh h_p0_young h_p0_dropped h_p0_released h_p0_owed h_p0_counted h_p0_inMemory h_p0_onDisk h_p0_thn mem dsk fresh young dropped released owed counted inMemory onDisk (upd thn (t0 - t0 / (nI 32) * (nI 32)).toNatClampNeg (vp_nar .boolean (nI 1))) moved) := hD
    refine lv_iinc (k := 5) (v := (x6 + (nI 1))) (lv' := [(6, .int (x6 + (nI 1))), (7, .int t0), (0, .ref h_p0), (3, .ref h_p0_thn), (1, .int x1), (5, .int x5)]) hx hb d_R_spread_123 hl rfl rfl (by decide) rfl (fun ls hl => ?_)
    refine lv_goto hx hb d_R_spread_126 rfl ?_
    exact h73 x1 x5 (x6 + (nI 1)) (upd thn (t0 - t0 / (nI 32) * (nI 32)).toNatClampNeg (vp_nar .boolean (nI 1))) h H locs ls (lv_sub hl [2, 3, 4, 5, 0] rfl) hP hD hS
set_option maxHeartbeats 4000000 in
set_option maxRecDepth 100000 in
theorem w_R_spread_then_73 {p : Program} {l : Launch} {e : Env} {s : State} {m : MethodId} {args : Array Value} {below : List Frame} {meth : Method} {c : Code} {D : va_G} {cI cZ : ClassId} {A : Nat → Prop} (h_p0 h_p0_m h_p0_d h_p0_fresh h_p0_young h_p0_dropped h_p0_released h_p0_owed h_p0_counted h_p0_inMemory h_p0_onDisk h_p0_thn : Nat) (F : Nat) (mem : (Nat → Int32)) (dsk : (Nat → Int32)) (fresh : (Nat → Int32)) (young : (Nat → Int32)) (dropped : (Nat → Int32)) (released : (Nat → Int32)) (owed : (Nat → Int32)) (counted : (Nat → Int32)) (inMemory : (Nat → Int32)) (onDisk : (Nat → Int32)) (moved : Int32) (thn' : (Nat → Int32)) (cx : cx_ok p s m args meth c b_R_spread 8 o_R_spread "OrderedVolumeModel" none D cI cZ A) : ∀ (n : Nat) (x1 : Int32) (x5 : Int32) (x6 : Int32) (thn : (Nat → Int32)), s_R_spread_then_73 F mem dsk fresh n x1 x5 x6 thn = some thn' → wk_G p l e rm_R_spread s m args below meth c (sc_Qv below args s D cI cZ A (w_R cI cZ h_p0 h_p0_m h_p0_d h_p0_fresh h_p0_young h_p0_dropped h_p0_released h_p0_owed h_p0_counted h_p0_inMemory h_p0_onDisk h_p0_thn mem dsk fresh young dropped released owed counted inMemory onDisk (thn') moved)) D A 8 73 [] [(0, .ref h_p0), (3, .ref h_p0_thn), (1, .int x1), (5, .int x5), (6, .int x6)] (w_R cI cZ h_p0 h_p0_m h_p0_d h_p0_fresh h_p0_young h_p0_dropped h_p0_released h_p0_owed h_p0_counted h_p0_inMemory h_p0_onDisk h_p0_thn mem dsk fresh young dropped released owed counted inMemory onDisk thn moved) := by
  obtain ⟨cf, hr, hlk, hK, hN, hA⟩ := cx
  have hx := cf.1
  have hb := cf.2.1
  have hown := cf.2.2.2.1
  have ht : ∀ w ∈ wA, w.before args s = true := fun w h => cf.2.2.2.2 w (List.mem_cons_of_mem _ h)
  intro n
  induction n with
  | zero => intro x1 x5 x6 thn h; cases (show (none : Option ((Nat → Int32))) = some _ from h)
  | succ n ih =>
    intro x1 x5 x6 thn h H locs ls hl hP hD hS
    unfold s_R_spread_then_73 at h
    refine lv_iload hx hb d_R_spread_73 (lv_at hl 4 rfl) ?_
    refine lv_bipush (v := (nI 8)) hx hb d_R_spread_75 (by decide) ?_
    refine lv_icmp_ge hx hb d_R_spread_77 rfl (fun hc => ?_) (fun hc => ?_)
    · rw [if_pos hc] at h
      cases h
      exact sc_vret cf hr hlk hK hP hD hS d_R_spread_129
    · rw [if_neg hc] at h
      refine lv_iload_n hx hb d_R_spread_80 rfl (lv_at hl 2 rfl) ?_
      refine lv_if_eq hx hb d_R_spread_81 rfl (fun hc => ?_) (fun hc => ?_)
      · rw [if_pos hc] at h
        refine lv_aload_n hx hb d_R_spread_95 rfl (lv_at hl 0 rfl) ?_
        refine va_get (D := D) (ci := 2) (v := .ref h_p0_m) (C := R_R) (T := F_R) (N := 12) hx hb ht in_R hown hK hP 0 rfl rfl 0 (by decide) (ht _ f_R_7) (fun _ h9 => h9) rfl d_R_spread_96 ?_
        refine lv_bipush (v := (nI 30)) hx hb d_R_spread_99 (by decide) ?_
        refine lv_iload hx hb d_R_spread_101 (lv_at hl 3 rfl) ?_
        refine lv_imul hx hb d_R_spread_103 ?_
        refine lv_iload hx hb d_R_spread_104 (lv_at hl 4 rfl) ?_
        refine lv_iadd hx hb d_R_spread_106 ?_
        obtain ⟨hin, h⟩ := gr_some h
        refine va_iald hx hb hK hP 1 0 rfl rfl hin d_R_spread_107 ?_
        generalize mem (((nI 30) * x5) + x6).toNatClampNeg = v107 at h ⊢
        exact w_R_spread_then_108 h_p0 h_p0_m h_p0_d h_p0_fresh h_p0_young h_p0_dropped h_p0_released h_p0_owed h_p0_counted h_p0_inMemory h_p0_onDisk h_p0_thn F mem dsk fresh young dropped released owed counted inMemory onDisk moved thn' _ ⟨cf, hr, hlk, hK, hN, hA⟩ ih x1 x5 x6 v107 thn h H locs ls (lv_sub hl [0, 1, 2, 3, 4] rfl) hP hD hS
      · rw [if_neg hc] at h
        refine lv_aload_n hx hb d_R_spread_84 rfl (lv_at hl 0 rfl) ?_
        refine lv_iload hx hb d_R_spread_85 (lv_at hl 3 rfl) ?_
        refine lv_iload hx hb d_R_spread_87 (lv_at hl 4 rfl) ?_
        obtain ⟨r89, h89, h⟩ := bd_some h
        refine wk_Vi (As := [.int x5, .int x6]) (rest := []) (wc := (w_R cI cZ h_p0 h_p0_m h_p0_d h_p0_fresh h_p0_young h_p0_dropped h_p0_released h_p0_owed h_p0_counted h_p0_inMemory h_p0_onDisk h_p0_thn mem dsk fresh young dropped released owed counted inMemory onDisk thn moved)) (w1 := (w_R cI cZ h_p0 h_p0_m h_p0_d h_p0_fresh h_p0_young h_p0_dropped h_p0_released h_p0_owed h_p0_counted h_p0_inMemory h_p0_onDisk h_p0_thn mem dsk fresh young dropped released owed counted inMemory onDisk thn moved)) (wr := []) (wz := (w_R cI cZ h_p0 h_p0_m h_p0_d h_p0_fresh h_p0_young h_p0_dropped h_p0_released h_p0_owed h_p0_counted h_p0_inMemory h_p0_onDisk h_p0_thn mem dsk fresh young dropped released owed counted inMemory onDisk thn moved)) cf hK hN hA (c_R_seen l D cI cZ h_p0 h_p0_m h_p0_d h_p0_fresh h_p0_young h_p0_dropped h_p0_released h_p0_owed h_p0_counted h_p0_inMemory h_p0_onDisk h_p0_thn mem dsk fresh young dropped released owed counted inMemory onDisk thn moved x5 x6 r89 h89) k_R_66 ⟨rfl, rfl, by decide, by decide⟩ 2 rfl rfl rfl hl hP hD hS [0, 1, 2, 3, 4, 5, 6, 7, 8, 9, 10, 11] [] [0, 1, 2, 3, 4, 5, 6, 7, 8, 9, 10, 11] rfl rfl rfl (by decide) rfl rfl rfl rfl rfl (Nat.le_of_ble_eq_true rfl) rfl d_R_spread_89 (fun H locs hP hD hS => ?_)
        refine lv_goto hx hb d_R_spread_92 rfl ?_
        exact w_R_spread_then_108 h_p0 h_p0_m h_p0_d h_p0_fresh h_p0_young h_p0_dropped h_p0_released h_p0_owed h_p0_counted h_p0_inMemory h_p0_onDisk h_p0_thn F mem dsk fresh young dropped released owed counted inMemory onDisk moved thn' _ ⟨cf, hr, hlk, hK, hN, hA⟩ ih x1 x5 x6 r89 thn h H locs ls (lv_sub hl [0, 1, 2, 3, 4] rfl) hP hD hS
set_option maxHeartbeats 4000000 in
set_option maxRecDepth 100000 in
theorem w_R_spread_then_56 {p : Program} {l : Launch} {e : Env} {s : State} {m : MethodId} {args : Array Value} {below : List Frame} {meth : Method} {c : Code} {D : va_G} {cI cZ : ClassId} {A : Nat → Prop} (h_p0 h_p0_m h_p0_d h_p0_fresh h_p0_young h_p0_dropped h_p0_released h_p0_owed h_p0_counted h_p0_inMemory h_p0_onDisk h_p0_thn : Nat) (F : Nat) (mem : (Nat → Int32)) (dsk : (Nat → Int32)) (fresh : (Nat → Int32)) (young : (Nat → Int32)) (dropped : (Nat → Int32)) (released : (Nat → Int32)) (owed : (Nat → Int32)) (counted : (Nat → Int32)) (inMemory : (Nat → Int32)) (onDisk : (Nat → Int32)) (moved : Int32) (thn' : (Nat → Int32)) (cx : cx_ok p s m args meth c b_R_spread 8 o_R_spread "OrderedVolumeModel" none D cI cZ A) : ∀ (x1 : Int32) (x4 : Int32) (t0 : Int32) (thn : (Nat → Int32)), s_R_spread_then_56 F mem dsk fresh x1 x4 t0 thn = some thn' → wk_G p l e rm_R_spread s m args below meth c (sc_Qv below args s D cI cZ A (w_R cI cZ h_p0 h_p0_m h_p0_d h_p0_fresh h_p0_young h_p0_dropped h_p0_released h_p0_owed h_p0_counted h_p0_inMemory h_p0_onDisk h_p0_thn mem dsk fresh young dropped released owed counted inMemory onDisk (thn') moved)) D A 8 56 [.int t0] [(0, .ref h_p0), (3, .ref h_p0_thn), (1, .int x1), (4, .int x4)] (w_R cI cZ h_p0 h_p0_m h_p0_d h_p0_fresh h_p0_young h_p0_dropped h_p0_released h_p0_owed h_p0_counted h_p0_inMemory h_p0_onDisk h_p0_thn mem dsk fresh young dropped released owed counted inMemory onDisk thn moved) := by
  obtain ⟨cf, hr, hlk, hK, hN, hA⟩ := cx
  have hx := cf.1
  have hb := cf.2.1
  have hown := cf.2.2.2.1
  have ht : ∀ w ∈ wA, w.before args s = true := fun w h => cf.2.2.2.2 w (List.mem_cons_of_mem _ h)
  intro x1 x4 t0 thn h H locs ls hl hP hD hS
  unfold s_R_spread_then_56 at h
  refine lv_istore (lv' := [(5, .int t0), (0, .ref h_p0), (3, .ref h_p0_thn), (1, .int x1), (4, .int x4)]) hx hb d_R_spread_56 hl (by decide) rfl (fun ls hl => ?_)
  refine lv_iload hx hb d_R_spread_58 (lv_at hl 4 rfl) ?_
  refine lv_iconst (v := (nI 2)) hx hb d_R_spread_60 (by decide) ?_
  refine lv_icmp_ne hx hb d_R_spread_61 rfl (fun hc => ?_) (fun hc => ?_)
  · rw [if_neg hc] at h
    cases h
    exact sc_vret cf hr hlk hK hP hD hS d_R_spread_69
  · rw [if_pos hc] at h
    refine lv_iload hx hb d_R_spread_64 (lv_at hl 0 rfl) ?_
    refine lv_if_ne hx hb d_R_spread_66 rfl (fun hc => ?_) (fun hc => ?_)
    · rw [if_neg hc] at h
      refine lv_iconst (v := (nI 0)) hx hb d_R_spread_70 (by decide) ?_
      refine lv_istore (lv' := [(6, .int (nI 0)), (5, .int t0), (0, .ref h_p0), (3, .ref h_p0_thn), (1, .int x1), (4, .int x4)]) hx hb d_R_spread_71 hl (by decide) rfl (fun ls hl => ?_)
      exact w_R_spread_then_73 h_p0 h_p0_m h_p0_d h_p0_fresh h_p0_young h_p0_dropped h_p0_released h_p0_owed h_p0_counted h_p0_inMemory h_p0_onDisk h_p0_thn F mem dsk fresh young dropped released owed counted inMemory onDisk moved thn' ⟨cf, hr, hlk, hK, hN, hA⟩ F x1 t0 (nI 0) thn h H locs ls (lv_sub hl [2, 3, 4, 1, 0] rfl) hP hD hS
    · rw [if_pos hc] at h
      cases h
      exact sc_vret cf hr hlk hK hP hD hS d_R_spread_69
set_option maxHeartbeats 4000000 in
set_option maxRecDepth 100000 in
theorem w_R_spread_then_27 {p : Program} {l : Launch} {e : Env} {s : State} {m : MethodId} {args : Array Value} {below : List Frame} {meth : Method} {c : Code} {D : va_G} {cI cZ : ClassId} {A : Nat → Prop} (h_p0 h_p0_m h_p0_d h_p0_fresh h_p0_young h_p0_dropped h_p0_released h_p0_owed h_p0_counted h_p0_inMemory h_p0_onDisk h_p0_thn : Nat) (F : Nat) (mem : (Nat → Int32)) (dsk : (Nat → Int32)) (fresh : (Nat → Int32)) (young : (Nat → Int32)) (dropped : (Nat → Int32)) (released : (Nat → Int32)) (owed : (Nat → Int32)) (counted : (Nat → Int32)) (inMemory : (Nat → Int32)) (onDisk : (Nat → Int32)) (moved : Int32) (thn' : (Nat → Int32)) (cx : cx_ok p s m args meth c b_R_spread 8 o_R_spread "OrderedVolumeModel" none D cI cZ A) : ∀ (x1 : Int32) (x2 : Int32) (t0 : Int32) (thn : (Nat → Int32)), s_R_spread_then_27 F mem dsk fresh x1 x2 t0 thn = some thn' → wk_G p l e rm_R_spread s m args below meth c (sc_Qv below args s D cI cZ A (w_R cI cZ h_p0 h_p0_m h_p0_d h_p0_fresh h_p0_young h_p0_dropped h_p0_released h_p0_owed h_p0_counted h_p0_inMemory h_p0_onDisk h_p0_thn mem dsk fresh young dropped released owed counted inMemory onDisk (thn') moved)) D A 8 27 [.int t0] [(0, .ref h_p0), (3, .ref h_p0_thn), (1, .int x1), (2, .int x2)] (w_R cI cZ h_p0 h_p0_m h_p0_d h_p0_fresh h_p0_young h_p0_dropped h_p0_released h_p0_owed h_p0_counted h_p0_inMemory h_p0_onDisk h_p0_thn mem dsk fresh young dropped released owed counted inMemory onDisk thn moved) := by
  obtain ⟨cf, hr, hlk, hK, hN, hA⟩ := cx
  have hx := cf.1
  have hb := cf.2.1
  have hown := cf.2.2.2.1
  have ht : ∀ w ∈ wA, w.before args s = true := fun w h => cf.2.2.2.2 w (List.mem_cons_of_mem _ h)
  intro x1 x2 t0 thn h H locs ls hl hP hD hS
  unfold s_R_spread_then_27 at h
  refine lv_istore (lv' := [(4, .int t0), (0, .ref h_p0), (3, .ref h_p0_thn), (1, .int x1), (2, .int x2)]) hx hb d_R_spread_27 hl (by decide) rfl (fun ls hl => ?_)
  refine lv_iload_n hx hb d_R_spread_29 rfl (lv_at hl 3 rfl) ?_
  refine lv_if_eq hx hb d_R_spread_30 rfl (fun hc => ?_) (fun hc => ?_)
  · rw [if_pos hc] at h
    refine lv_aload_n hx hb d_R_spread_46 rfl (lv_at hl 1 rfl) ?_
    refine va_get (D := D) (ci := 2) (v := .ref h_p0_m) (C := R_R) (T := F_R) (N := 12) hx hb ht in_R hown hK hP 0 rfl rfl 0 (by decide) (ht _ f_R_7) (fun _ h9 => h9) rfl d_R_spread_47 ?_
    refine lv_iload_n hx hb d_R_spread_50 rfl (lv_at hl 4 rfl) ?_
    refine lv_iconst (v := (nI 2)) hx hb d_R_spread_51 (by decide) ?_
    obtain ⟨r52, h52, h⟩ := bd_some h
    refine wk_Si (As := [.int x2, .int (nI 2)]) (rest := [.ref h_p0_m]) (wc := []) (w1 := []) (wr := [(h_p0, .inr (2, [.ref h_p0_m, .ref h_p0_d, .ref h_p0_fresh, .ref h_p0_young, .ref h_p0_dropped, .ref h_p0_released, .ref h_p0_owed, .ref h_p0_counted, .ref h_p0_inMemory, .ref h_p0_onDisk, .ref h_p0_thn, .int moved])), (h_p0_m, .inl (cI, 1080, .inl mem)), (h_p0_d, .inl (cI, 1080, .inl dsk)), (h_p0_fresh, .inl (cZ, 36, .inl fresh)), (h_p0_young, .inl (cZ, 288, .inl young)), (h_p0_dropped, .inl (cI, 36, .inl dropped)), (h_p0_released, .inl (cZ, 18, .inl released)), (h_p0_owed, .inl (cI, 18, .inl owed)), (h_p0_counted, .inl (cI, 18, .inl counted)), (h_p0_inMemory, .inl (cZ, 18, .inl inMemory)), (h_p0_onDisk, .inl (cZ, 18, .inl onDisk)), (h_p0_thn, .inl (cZ, 18, .inl thn))]) (wz := (w_R cI cZ h_p0 h_p0_m h_p0_d h_p0_fresh h_p0_young h_p0_dropped h_p0_released h_p0_owed h_p0_counted h_p0_inMemory h_p0_onDisk h_p0_thn mem dsk fresh young dropped released owed counted inMemory onDisk thn moved)) cf hK hN hA (c_R_at l D cI cZ 0 x2 (nI 2) r52 h52) k_R_44 ⟨rfl, rfl, by decide, by decide⟩ hl hP hD hS [] [0, 1, 2, 3, 4, 5, 6, 7, 8, 9, 10, 11] [0, 1, 2, 3, 4, 5, 6, 7, 8, 9, 10, 11] rfl rfl rfl (by decide) rfl rfl rfl rfl rfl (Nat.le_of_ble_eq_true rfl) rfl d_R_spread_52 (fun H locs hP hD hS => ?_)
    obtain ⟨hin, h⟩ := gr_some h
    refine va_iald hx hb hK hP 1 0 rfl rfl hin d_R_spread_55 ?_
    generalize mem r52.toNatClampNeg = v55 at h ⊢
    exact w_R_spread_then_56 h_p0 h_p0_m h_p0_d h_p0_fresh h_p0_young h_p0_dropped h_p0_released h_p0_owed h_p0_counted h_p0_inMemory h_p0_onDisk h_p0_thn F mem dsk fresh young dropped released owed counted inMemory onDisk moved thn' ⟨cf, hr, hlk, hK, hN, hA⟩ x1 t0 v55 thn h H locs ls (lv_sub hl [1, 2, 3, 0] rfl) hP hD hS
  · rw [if_neg hc] at h
    refine lv_aload_n hx hb d_R_spread_33 rfl (lv_at hl 1 rfl) ?_
    refine va_get (D := D) (ci := 2) (v := .ref h_p0_d) (C := R_R) (T := F_R) (N := 12) hx hb ht in_R hown hK hP 0 rfl rfl 1 (by decide) (ht _ f_R_13) (fun _ h9 => h9) rfl d_R_spread_34 ?_
    refine lv_iload_n hx hb d_R_spread_37 rfl (lv_at hl 4 rfl) ?_
    refine lv_iconst (v := (nI 2)) hx hb d_R_spread_38 (by decide) ?_
    obtain ⟨r39, h39, h⟩ := bd_some h
    refine wk_Si (As := [.int x2, .int (nI 2)]) (rest := [.ref h_p0_d]) (wc := []) (w1 := []) (wr := [(h_p0, .inr (2, [.ref h_p0_m, .ref h_p0_d, .ref h_p0_fresh, .ref h_p0_young, .ref h_p0_dropped, .ref h_p0_released, .ref h_p0_owed, .ref h_p0_counted, .ref h_p0_inMemory, .ref h_p0_onDisk, .ref h_p0_thn, .int moved])), (h_p0_m, .inl (cI, 1080, .inl mem)), (h_p0_d, .inl (cI, 1080, .inl dsk)), (h_p0_fresh, .inl (cZ, 36, .inl fresh)), (h_p0_young, .inl (cZ, 288, .inl young)), (h_p0_dropped, .inl (cI, 36, .inl dropped)), (h_p0_released, .inl (cZ, 18, .inl released)), (h_p0_owed, .inl (cI, 18, .inl owed)), (h_p0_counted, .inl (cI, 18, .inl counted)), (h_p0_inMemory, .inl (cZ, 18, .inl inMemory)), (h_p0_onDisk, .inl (cZ, 18, .inl onDisk)), (h_p0_thn, .inl (cZ, 18, .inl thn))]) (wz := (w_R cI cZ h_p0 h_p0_m h_p0_d h_p0_fresh h_p0_young h_p0_dropped h_p0_released h_p0_owed h_p0_counted h_p0_inMemory h_p0_onDisk h_p0_thn mem dsk fresh young dropped released owed counted inMemory onDisk thn moved)) cf hK hN hA (c_R_at l D cI cZ 0 x2 (nI 2) r39 h39) k_R_44 ⟨rfl, rfl, by decide, by decide⟩ hl hP hD hS [] [0, 1, 2, 3, 4, 5, 6, 7, 8, 9, 10, 11] [0, 1, 2, 3, 4, 5, 6, 7, 8, 9, 10, 11] rfl rfl rfl (by decide) rfl rfl rfl rfl rfl (Nat.le_of_ble_eq_true rfl) rfl d_R_spread_39 (fun H locs hP hD hS => ?_)
    obtain ⟨hin, h⟩ := gr_some h
    refine va_iald hx hb hK hP 2 0 rfl rfl hin d_R_spread_42 ?_
    generalize dsk r39.toNatClampNeg = v42 at h ⊢
    refine lv_goto hx hb d_R_spread_43 rfl ?_
    exact w_R_spread_then_56 h_p0 h_p0_m h_p0_d h_p0_fresh h_p0_young h_p0_dropped h_p0_released h_p0_owed h_p0_counted h_p0_inMemory h_p0_onDisk h_p0_thn F mem dsk fresh young dropped released owed counted inMemory onDisk moved thn' ⟨cf, hr, hlk, hK, hN, hA⟩ x1 t0 v42 thn h H locs ls (lv_sub hl [1, 2, 3, 0] rfl) hP hD hS
set_option maxHeartbeats 4000000 in
set_option maxRecDepth 100000 in
theorem c_R_spread_then (l : Launch) (D : va_G) (cI cZ : ClassId) (h_p0 h_p0_m h_p0_d h_p0_fresh h_p0_young h_p0_dropped h_p0_released h_p0_owed h_p0_counted h_p0_inMemory h_p0_onDisk h_p0_thn : Nat) (F : Nat) (mem : (Nat → Int32)) (dsk : (Nat → Int32)) (fresh : (Nat → Int32)) (young : (Nat → Int32)) (dropped : (Nat → Int32)) (released : (Nat → Int32)) (owed : (Nat → Int32)) (counted : (Nat → Int32)) (inMemory : (Nat → Int32)) (onDisk : (Nat → Int32)) (thn : (Nat → Int32)) (moved : Int32) (thn' : (Nat → Int32)) (x1 : Int32) (x2 : Int32) (h : s_R_spread_then F mem dsk fresh x1 x2 thn = some thn') : sc_v l y_R_spread (o_R_spread :: wA) rm_R_spread D cI cZ [.ref h_p0, .int x1, .int x2, .ref h_p0_thn] (w_R cI cZ h_p0 h_p0_m h_p0_d h_p0_fresh h_p0_young h_p0_dropped h_p0_released h_p0_owed h_p0_counted h_p0_inMemory h_p0_onDisk h_p0_thn mem dsk fresh young dropped released owed counted inMemory onDisk thn moved) (w_R cI cZ h_p0 h_p0_m h_p0_d h_p0_fresh h_p0_young h_p0_dropped h_p0_released h_p0_owed h_p0_counted h_p0_inMemory h_p0_onDisk h_p0_thn mem dsk fresh young dropped released owed counted inMemory onDisk (thn') moved) := by
  refine sc_v_of (cc := b_R_spread) (maxL := 8) (ret := none) (by decide) rfl (Nat.le_of_ble_eq_true rfl) ?_
  intro p e s m below meth c A cf hr hlk hK hN hA H locs ls hl hP hD hS
  have hx := cf.1
  have hb := cf.2.1
  have hown := cf.2.2.2.1
  have ht : ∀ w ∈ wA, w.before _ s = true := fun w h => cf.2.2.2.2 w (List.mem_cons_of_mem _ h)
  unfold s_R_spread_then at h
  have hl : lv_has ls 8 [(0, .ref h_p0), (1, .int x1), (2, .int x2), (3, .ref h_p0_thn)] := hl
  refine lv_iload_n hx hb d_R_spread_0 rfl (lv_at hl 1 rfl) ?_
  refine lv_if_eq hx hb d_R_spread_1 rfl (fun hc => ?_) (fun hc => ?_)
  · rw [if_pos hc] at h
    refine lv_aload_n hx hb d_R_spread_17 rfl (lv_at hl 0 rfl) ?_
    refine va_get (D := D) (ci := 2) (v := .ref h_p0_m) (C := R_R) (T := F_R) (N := 12) hx hb ht in_R hown hK hP 0 rfl rfl 0 (by decide) (ht _ f_R_7) (fun _ h9 => h9) rfl d_R_spread_18 ?_
    refine lv_iload_n hx hb d_R_spread_21 rfl (lv_at hl 2 rfl) ?_
    refine lv_iconst (v := (nI 0)) hx hb d_R_spread_22 (by decide) ?_
    obtain ⟨r23, h23, h⟩ := bd_some h
    refine wk_Si (As := [.int x2, .int (nI 0)]) (rest := [.ref h_p0_m]) (wc := []) (w1 := []) (wr := [(h_p0, .inr (2, [.ref h_p0_m, .ref h_p0_d, .ref h_p0_fresh, .ref h_p0_young, .ref h_p0_dropped, .ref h_p0_released, .ref h_p0_owed, .ref h_p0_counted, .ref h_p0_inMemory, .ref h_p0_onDisk, .ref h_p0_thn, .int moved])), (h_p0_m, .inl (cI, 1080, .inl mem)), (h_p0_d, .inl (cI, 1080, .inl dsk)), (h_p0_fresh, .inl (cZ, 36, .inl fresh)), (h_p0_young, .inl (cZ, 288, .inl young)), (h_p0_dropped, .inl (cI, 36, .inl dropped)), (h_p0_released, .inl (cZ, 18, .inl released)), (h_p0_owed, .inl (cI, 18, .inl owed)), (h_p0_counted, .inl (cI, 18, .inl counted)), (h_p0_inMemory, .inl (cZ, 18, .inl inMemory)), (h_p0_onDisk, .inl (cZ, 18, .inl onDisk)), (h_p0_thn, .inl (cZ, 18, .inl thn))]) (wz := (w_R cI cZ h_p0 h_p0_m h_p0_d h_p0_fresh h_p0_young h_p0_dropped h_p0_released h_p0_owed h_p0_counted h_p0_inMemory h_p0_onDisk h_p0_thn mem dsk fresh young dropped released owed counted inMemory onDisk thn moved)) cf hK hN hA (c_R_at l D cI cZ 0 x2 (nI 0) r23 h23) k_R_44 ⟨rfl, rfl, by decide, by decide⟩ hl hP hD hS [] [0, 1, 2, 3, 4, 5, 6, 7, 8, 9, 10, 11] [0, 1, 2, 3, 4, 5, 6, 7, 8, 9, 10, 11] rfl rfl rfl (by decide) rfl rfl rfl rfl rfl (Nat.le_of_ble_eq_true rfl) rfl d_R_spread_23 (fun H locs hP hD hS => ?_)
    obtain ⟨hin, h⟩ := gr_some h
    refine va_iald hx hb hK hP 1 0 rfl rfl hin d_R_spread_26 ?_
    generalize mem r23.toNatClampNeg = v26 at h ⊢
    exact w_R_spread_then_27 h_p0 h_p0_m h_p0_d h_p0_fresh h_p0_young h_p0_dropped h_p0_released h_p0_owed h_p0_counted h_p0_inMemory h_p0_onDisk h_p0_thn F mem dsk fresh young dropped released owed counted inMemory onDisk moved thn' ⟨cf, hr, hlk, hK, hN, hA⟩ x1 x2 v26 thn h H locs ls (lv_sub hl [0, 3, 1, 2] rfl) hP hD hS
  · rw [if_neg hc] at h
    refine lv_aload_n hx hb d_R_spread_4 rfl (lv_at hl 0 rfl) ?_
    refine va_get (D := D) (ci := 2) (v := .ref h_p0_d) (C := R_R) (T := F_R) (N := 12) hx hb ht in_R hown hK hP 0 rfl rfl 1 (by decide) (ht _ f_R_13) (fun _ h9 => h9) rfl d_R_spread_5 ?_
    refine lv_iload_n hx hb d_R_spread_8 rfl (lv_at hl 2 rfl) ?_
    refine lv_iconst (v := (nI 0)) hx hb d_R_spread_9 (by decide) ?_
    obtain ⟨r10, h10, h⟩ := bd_some h
    refine wk_Si (As := [.int x2, .int (nI 0)]) (rest := [.ref h_p0_d]) (wc := []) (w1 := []) (wr := [(h_p0, .inr (2, [.ref h_p0_m, .ref h_p0_d, .ref h_p0_fresh, .ref h_p0_young, .ref h_p0_dropped, .ref h_p0_released, .ref h_p0_owed, .ref h_p0_counted, .ref h_p0_inMemory, .ref h_p0_onDisk, .ref h_p0_thn, .int moved])), (h_p0_m, .inl (cI, 1080, .inl mem)), (h_p0_d, .inl (cI, 1080, .inl dsk)), (h_p0_fresh, .inl (cZ, 36, .inl fresh)), (h_p0_young, .inl (cZ, 288, .inl young)), (h_p0_dropped, .inl (cI, 36, .inl dropped)), (h_p0_released, .inl (cZ, 18, .inl released)), (h_p0_owed, .inl (cI, 18, .inl owed)), (h_p0_counted, .inl (cI, 18, .inl counted)), (h_p0_inMemory, .inl (cZ, 18, .inl inMemory)), (h_p0_onDisk, .inl (cZ, 18, .inl onDisk)), (h_p0_thn, .inl (cZ, 18, .inl thn))]) (wz := (w_R cI cZ h_p0 h_p0_m h_p0_d h_p0_fresh h_p0_young h_p0_dropped h_p0_released h_p0_owed h_p0_counted h_p0_inMemory h_p0_onDisk h_p0_thn mem dsk fresh young dropped released owed counted inMemory onDisk thn moved)) cf hK hN hA (c_R_at l D cI cZ 0 x2 (nI 0) r10 h10) k_R_44 ⟨rfl, rfl, by decide, by decide⟩ hl hP hD hS [] [0, 1, 2, 3, 4, 5, 6, 7, 8, 9, 10, 11] [0, 1, 2, 3, 4, 5, 6, 7, 8, 9, 10, 11] rfl rfl rfl (by decide) rfl rfl rfl rfl rfl (Nat.le_of_ble_eq_true rfl) rfl d_R_spread_10 (fun H locs hP hD hS => ?_)
    obtain ⟨hin, h⟩ := gr_some h
    refine va_iald hx hb hK hP 2 0 rfl rfl hin d_R_spread_13 ?_
    generalize dsk r10.toNatClampNeg = v13 at h ⊢
    refine lv_goto hx hb d_R_spread_14 rfl ?_
    exact w_R_spread_then_27 h_p0 h_p0_m h_p0_d h_p0_fresh h_p0_young h_p0_dropped h_p0_released h_p0_owed h_p0_counted h_p0_inMemory h_p0_onDisk h_p0_thn F mem dsk fresh young dropped released owed counted inMemory onDisk moved thn' ⟨cf, hr, hlk, hK, hN, hA⟩ x1 x2 v13 thn h H locs ls (lv_sub hl [0, 3, 1, 2] rfl) hP hD hS
set_option maxHeartbeats 4000000 in
set_option maxRecDepth 100000 in
theorem w_R_below_then_11 {p : Program} {l : Launch} {e : Env} {s : State} {m : MethodId} {args : Array Value} {below : List Frame} {meth : Method} {c : Code} {D : va_G} {cI cZ : ClassId} {A : Nat → Prop} (h_p0 h_p0_m h_p0_d h_p0_fresh h_p0_young h_p0_dropped h_p0_released h_p0_owed h_p0_counted h_p0_inMemory h_p0_onDisk h_p0_thn : Nat) (F : Nat) (mem : (Nat → Int32)) (dsk : (Nat → Int32)) (fresh : (Nat → Int32)) (young : (Nat → Int32)) (dropped : (Nat → Int32)) (released : (Nat → Int32)) (owed : (Nat → Int32)) (counted : (Nat → Int32)) (inMemory : (Nat → Int32)) (onDisk : (Nat → Int32)) (moved : Int32) (thn' : (Nat → Int32)) (k2 : Int32 → Int32 → (Nat → Int32) → Option ((Nat → Int32))) (cx : cx_ok p s m args meth c b_R_below 5 o_R_below "OrderedVolumeModel" none D cI cZ A) (h2 : (∀ (x1 : Int32) (x3 : Int32) (thn : (Nat → Int32)), k2 x1 x3 thn = some thn' → wk_G p l e rm_R_below s m args below meth c (sc_Qv below args s D cI cZ A (w_R cI cZ h_p0 h_p0_m h_p0_d h_p0_fresh h_p0_young h_p0_dropped h_p0_released h_p0_owed h_p0_counted h_p0_inMemory h_p0_onDisk h_p0_thn mem dsk fresh young dropped released owed counted inMemory onDisk (thn') moved)) D A 5 2 [] [(0, .ref h_p0), (2, .ref h_p0_thn), (1, .int x1), (3, .int x3)] (w_R cI cZ h_p0 h_p0_m h_p0_d h_p0_fresh h_p0_young h_p0_dropped h_p0_released h_p0_owed h_p0_counted h_p0_inMemory h_p0_onDisk h_p0_thn mem dsk fresh young dropped released owed counted inMemory onDisk thn moved))) : ∀ (n : Nat) (x1 : Int32) (x3 : Int32) (x4 : Int32) (thn : (Nat → Int32)), s_R_below_then_11 F mem dsk fresh k2 n x1 x3 x4 thn = some thn' → wk_G p l e rm_R_below s m args below meth c (sc_Qv below args s D cI cZ A (w_R cI cZ h_p0 h_p0_m h_p0_d h_p0_fresh h_p0_young h_p0_dropped h_p0_released h_p0_owed h_p0_counted h_p0_inMemory h_p0_onDisk h_p0_thn mem dsk fresh young dropped released owed counted inMemory onDisk (thn') moved)) D A 5 11 [] [(0, .ref h_p0), (2, .ref h_p0_thn), (1, .int x1), (3, .int x3), (4, .int x4)] (w_R cI cZ h_p0 h_p0_m h_p0_d h_p0_fresh h_p0_young h_p0_dropped h_p0_released h_p0_owed h_p0_counted h_p0_inMemory h_p0_onDisk h_p0_thn mem dsk fresh young dropped released owed counted inMemory onDisk thn moved) := by
  obtain ⟨cf, hr, hlk, hK, hN, hA⟩ := cx
  have hx := cf.1
  have hb := cf.2.1
  have hown := cf.2.2.2.1
  have ht : ∀ w ∈ wA, w.before args s = true := fun w h => cf.2.2.2.2 w (List.mem_cons_of_mem _ h)
  intro n
  induction n with
  | zero => intro x1 x3 x4 thn h; cases (show (none : Option ((Nat → Int32))) = some _ from h)
  | succ n ih =>
    intro x1 x3 x4 thn h H locs ls hl hP hD hS
    unfold s_R_below_then_11 at h
    refine lv_iload hx hb d_R_below_11 (lv_at hl 4 rfl) ?_
    refine lv_bipush (v := (nI 18)) hx hb d_R_below_13 (by decide) ?_
    refine lv_icmp_ge hx hb d_R_below_15 rfl (fun hc => ?_) (fun hc => ?_)
    · rw [if_pos hc] at h
      refine lv_iinc (k := 3) (v := (x3 + (nI 1))) (lv' := [(3, .int (x3 + (nI 1))), (0, .ref h_p0), (2, .ref h_p0_thn), (1, .int x1), (4, .int x4)]) hx hb d_R_below_39 hl rfl rfl (by decide) rfl (fun ls hl => ?_)
      refine lv_goto hx hb d_R_below_42 rfl ?_
      exact h2 x1 (x3 + (nI 1)) thn h H locs ls (lv_sub hl [1, 2, 3, 0] rfl) hP hD hS
    · rw [if_neg hc] at h
      refine lv_aload_n hx hb d_R_below_18 rfl (lv_at hl 1 rfl) ?_
      refine lv_iload hx hb d_R_below_19 (lv_at hl 4 rfl) ?_
      obtain ⟨hin, h⟩ := gr_some h
      refine va_zald hx hb hK hP 11 1 rfl rfl hin d_R_below_21 ?_
      generalize thn x4.toNatClampNeg = v21 at h ⊢
      refine lv_if_eq hx hb d_R_below_22 rfl (fun hc => ?_) (fun hc => ?_)
      · rw [if_pos hc] at h
        refine lv_iinc (k := 4) (v := (x4 + (nI 1))) (lv' := [(4, .int (x4 + (nI 1))), (0, .ref h_p0), (2, .ref h_p0_thn), (1, .int x1), (3, .int x3)]) hx hb d_R_below_33 hl rfl rfl (by decide) rfl (fun ls hl => ?_)
        refine lv_goto hx hb d_R_below_36 rfl ?_
        exact ih x1 x3 (x4 + (nI 1)) thn h H locs ls (lv_sub hl [1, 2, 3, 4, 0] rfl) hP hD hS
      · rw [if_neg hc] at h
        refine lv_aload_n hx hb d_R_below_25 rfl (lv_at hl 0 rfl) ?_
        refine lv_iload_n hx hb d_R_below_26 rfl (lv_at hl 2 rfl) ?_
        refine lv_iload hx hb d_R_below_27 (lv_at hl 4 rfl) ?_
        refine lv_aload_n hx hb d_R_below_29 rfl (lv_at hl 1 rfl) ?_
        obtain ⟨thn_30, h30, h⟩ := bd_some h
        refine wk_Vv (As := [.int x1, .int x4, .ref h_p0_thn]) (rest := []) (wc := (w_R cI cZ h_p0 h_p0_m h_p0_d h_p0_fresh h_p0_young h_p0_dropped h_p0_released h_p0_owed h_p0_counted h_p0_inMemory h_p0_onDisk h_p0_thn mem dsk fresh young dropped released owed counted inMemory onDisk thn moved)) (w1 := (w_R cI cZ h_p0 h_p0_m h_p0_d h_p0_fresh h_p0_young h_p0_dropped h_p0_released h_p0_owed h_p0_counted h_p0_inMemory h_p0_onDisk h_p0_thn mem dsk fresh young dropped released owed counted inMemory onDisk thn_30 moved)) (wr := []) (wz := (w_R cI cZ h_p0 h_p0_m h_p0_d h_p0_fresh h_p0_young h_p0_dropped h_p0_released h_p0_owed h_p0_counted h_p0_inMemory h_p0_onDisk h_p0_thn mem dsk fresh young dropped released owed counted inMemory onDisk thn_30 moved)) cf hK hN hA (c_R_spread_then l D cI cZ h_p0 h_p0_m h_p0_d h_p0_fresh h_p0_young h_p0_dropped h_p0_released h_p0_owed h_p0_counted h_p0_inMemory h_p0_onDisk h_p0_thn F mem dsk fresh young dropped released owed counted inMemory onDisk thn moved thn_30 x1 x4 h30) k_R_62 ⟨rfl, rfl, by decide, by decide⟩ 2 rfl rfl rfl hl hP hD hS [0, 1, 2, 3, 4, 5, 6, 7, 8, 9, 10, 11] [] [0, 1, 2, 3, 4, 5, 6, 7, 8, 9, 10, 11] rfl rfl rfl (by decide) rfl rfl rfl rfl rfl (Nat.le_of_ble_eq_true rfl) rfl d_R_below_30 (fun H locs hP hD hS => ?_)
        refine lv_iinc (k := 4) (v := (x4 + (nI 1))) (lv' := [(4, .int (x4 + (nI 1))), (0, .ref h_p0), (2, .ref h_p0_thn), (1, .int x1), (3, .int x3)]) hx hb d_R_below_33 hl rfl rfl (by decide) rfl (fun ls hl => ?_)
        refine lv_goto hx hb d_R_below_36 rfl ?_
        exact ih x1 x3 (x4 + (nI 1)) thn_30 h H locs ls (lv_sub hl [1, 2, 3, 4, 0] rfl) hP hD hS
