set_option maxHeartbeats 4000000 in
set_option maxRecDepth 100000 in
theorem w_R_pointersTo_inMemory_16 {p : Program} {l : Launch} {e : Env} {s : State} {m : MethodId} {args : Array Value} {below : List Frame} {meth : Method} {c : Code} {D : va_G} {cI cZ : ClassId} {A : Nat → Prop} (h_p0 h_p0_m h_p0_d h_p0_fresh h_p0_young h_p0_dropped h_p0_released h_p0_owed h_p0_counted h_p0_inMemory h_p0_onDisk h_p0_thn : Nat) (F : Nat) (mem : (Nat → Int32)) (dsk : (Nat → Int32)) (fresh : (Nat → Int32)) (young : (Nat → Int32)) (dropped : (Nat → Int32)) (released : (Nat → Int32)) (owed : (Nat → Int32)) (counted : (Nat → Int32)) (inMemory : (Nat → Int32)) (onDisk : (Nat → Int32)) (thn : (Nat → Int32)) (moved : Int32) (r : Int32) (k6 : Int32 → Int32 → Int32 → Int32 → Option (Int32)) (cx : cx_ok p s m args meth c b_R_pointersTo 8 o_R_pointersTo "OrderedVolumeModel" (some .int) D cI cZ A) (h6 : (∀ (x1 : Int32) (x3 : Int32) (x4 : Int32) (x5 : Int32), k6 x1 x3 x4 x5 = some r → wk_G p l e rm_R_pointersTo s m args below meth c (sc_Qi below args s D cI cZ A (w_R cI cZ h_p0 h_p0_m h_p0_d h_p0_fresh h_p0_young h_p0_dropped h_p0_released h_p0_owed h_p0_counted h_p0_inMemory h_p0_onDisk h_p0_thn mem dsk fresh young dropped released owed counted inMemory onDisk thn moved) r) D A 8 6 [] [(0, .ref h_p0), (2, .ref h_p0_inMemory), (1, .int x1), (3, .int x3), (4, .int x4), (5, .int x5)] (w_R cI cZ h_p0 h_p0_m h_p0_d h_p0_fresh h_p0_young h_p0_dropped h_p0_released h_p0_owed h_p0_counted h_p0_inMemory h_p0_onDisk h_p0_thn mem dsk fresh young dropped released owed counted inMemory onDisk thn moved))) : ∀ (n : Nat) (x1 : Int32) (x3 : Int32) (x4 : Int32) (x5 : Int32) (x6 : Int32), s_R_pointersTo_inMemory_16 F mem dsk inMemory k6 n x1 x3 x4 x5 x6 = some r → wk_G p l e rm_R_pointersTo s m args below meth c (sc_Qi below args s D cI cZ A (w_R cI cZ h_p0 h_p0_m h_p0_d h_p0_fresh h_p0_young h_p0_dropped h_p0_released h_p0_owed h_p0_counted h_p0_inMemory h_p0_onDisk h_p0_thn mem dsk fresh young dropped released owed counted inMemory onDisk thn moved) r) D A 8 16 [] [(0, .ref h_p0), (2, .ref h_p0_inMemory), (1, .int x1), (3, .int x3), (4, .int x4), (5, .int x5), (6, .int x6)] (w_R cI cZ h_p0 h_p0_m h_p0_d h_p0_fresh h_p0_young h_p0_dropped h_p0_released h_p0_owed h_p0_counted h_p0_inMemory h_p0_onDisk h_p0_thn mem dsk fresh young dropped released owed counted inMemory onDisk thn moved) := by
  obtain ⟨cf, hr, hlk, hK, hN, hA⟩ := cx
  have hx := cf.1
  have hb := cf.2.1
  have hown := cf.2.2.2.1
  have ht : ∀ w ∈ wA, w.before args s = true := fun w h => cf.2.2.2.2 w (List.mem_cons_of_mem _ h)
  intro n
  induction n with
  | zero => intro x1 x3 x4 x5 x6 h; cases (show (none : Option (Int32)) = some _ from h)
  | succ n ih =>
    intro x1 x3 x4 x5 x6 h H locs ls hl hP hD hS
    unfold s_R_pointersTo_inMemory_16 at h
    refine lv_iload hx hb d_R_pointersTo_16 (lv_at hl 6 rfl) ?_
    refine lv_iconst (v := (nI 5)) hx hb d_R_pointersTo_18 (by decide) ?_
    refine lv_icmp_ge hx hb d_R_pointersTo_19 rfl (fun hc => ?_) (fun hc => ?_)
    · rw [if_pos hc] at h
      refine lv_iinc (k := 5) (v := (x5 + (nI 1))) (lv' := [(5, .int (x5 + (nI 1))), (0, .ref h_p0), (2, .ref h_p0_inMemory), (1, .int x1), (3, .int x3), (4, .int x4), (6, .int x6)]) hx hb d_R_pointersTo_85 hl rfl rfl (by decide) rfl (fun ls hl => ?_)
      refine lv_goto hx hb d_R_pointersTo_88 rfl ?_
      exact h6 x1 x3 x4 (x5 + (nI 1)) h H locs ls (lv_sub hl [1, 2, 3, 4, 5, 0] rfl) hP hD hS
    · rw [if_neg hc] at h
      refine lv_aload_n hx hb d_R_pointersTo_22 rfl (lv_at hl 1 rfl) ?_
      refine lv_iload hx hb d_R_pointersTo_23 (lv_at hl 5 rfl) ?_
      obtain ⟨hin, h⟩ := gr_some h
      refine va_zald hx hb hK hP 9 1 rfl rfl hin d_R_pointersTo_25 ?_
      generalize inMemory x5.toNatClampNeg = v25 at h ⊢
      refine lv_if_eq hx hb d_R_pointersTo_26 rfl (fun hc => ?_) (fun hc => ?_)
      · rw [if_pos hc] at h
        refine lv_iinc (k := 5) (v := (x5 + (nI 1))) (lv' := [(5, .int (x5 + (nI 1))), (0, .ref h_p0), (2, .ref h_p0_inMemory), (1, .int x1), (3, .int x3), (4, .int x4), (6, .int x6)]) hx hb d_R_pointersTo_85 hl rfl rfl (by decide) rfl (fun ls hl => ?_)
        refine lv_goto hx hb d_R_pointersTo_88 rfl ?_
        exact h6 x1 x3 x4 (x5 + (nI 1)) h H locs ls (lv_sub hl [1, 2, 3, 4, 5, 0] rfl) hP hD hS
      · rw [if_neg hc] at h
        refine lv_iload_n hx hb d_R_pointersTo_29 rfl (lv_at hl 2 rfl) ?_
        refine lv_if_eq hx hb d_R_pointersTo_30 rfl (fun hc => ?_) (fun hc => ?_)
        · rw [if_pos hc] at h
          refine lv_aload_n hx hb d_R_pointersTo_48 rfl (lv_at hl 0 rfl) ?_
          refine va_get (D := D) (ci := 2) (v := .ref h_p0_m) (C := R_R) (T := F_R) (N := 12) hx hb ht in_R hown hK hP 0 rfl rfl 0 (by decide) (ht _ f_R_7) (fun _ h9 => h9) rfl d_R_pointersTo_49 ?_
          refine lv_iload hx hb d_R_pointersTo_52 (lv_at hl 5 rfl) ?_
          refine lv_iload hx hb d_R_pointersTo_54 (lv_at hl 6 rfl) ?_
          obtain ⟨r56, h56, h⟩ := bd_some h
          refine wk_Si (As := [.int x5, .int x6]) (rest := [.ref h_p0_m]) (wc := []) (w1 := []) (wr := [(h_p0, .inr (2, [.ref h_p0_m, .ref h_p0_d, .ref h_p0_fresh, .ref h_p0_young, .ref h_p0_dropped, .ref h_p0_released, .ref h_p0_owed, .ref h_p0_counted, .ref h_p0_inMemory, .ref h_p0_onDisk, .ref h_p0_thn, .int moved])), (h_p0_m, .inl (cI, 1080, .inl mem)), (h_p0_d, .inl (cI, 1080, .inl dsk)), (h_p0_fresh, .inl (cZ, 36, .inl fresh)), (h_p0_young, .inl (cZ, 288, .inl young)), (h_p0_dropped, .inl (cI, 36, .inl dropped)), (h_p0_released, .inl (cZ, 18, .inl released)), (h_p0_owed, .inl (cI, 18, .inl owed)), (h_p0_counted, .inl (cI, 18, .inl counted)), (h_p0_inMemory, .inl (cZ, 18, .inl inMemory)), (h_p0_onDisk, .inl (cZ, 18, .inl onDisk)), (h_p0_thn, .inl (cZ, 18, .inl thn))]) (wz := (w_R cI cZ h_p0 h_p0_m h_p0_d h_p0_fresh h_p0_young h_p0_dropped h_p0_released h_p0_owed h_p0_counted h_p0_inMemory h_p0_onDisk h_p0_thn mem dsk fresh young dropped released owed counted inMemory onDisk thn moved)) cf hK hN hA (c_R_at l D cI cZ 0 x5 x6 r56 h56) k_R_44 ⟨rfl, rfl, by decide, by decide⟩ hl hP hD hS [] [0, 1, 2, 3, 4, 5, 6, 7, 8, 9, 10, 11] [0, 1, 2, 3, 4, 5, 6, 7, 8, 9, 10, 11] rfl rfl rfl (by decide) rfl rfl rfl rfl rfl (Nat.le_of_ble_eq_true rfl) rfl d_R_pointersTo_56 (fun H locs hP hD hS => ?_)
          obtain ⟨hin, h⟩ := gr_some h
          refine va_iald hx hb hK hP 1 0 rfl rfl hin d_R_pointersTo_59 ?_
          generalize mem r56.toNatClampNeg = v59 at h ⊢
          exact w_R_pointersTo_inMemory_60 h_p0 h_p0_m h_p0_d h_p0_fresh h_p0_young h_p0_dropped h_p0_released h_p0_owed h_p0_counted h_p0_inMemory h_p0_onDisk h_p0_thn F mem dsk fresh young dropped released owed counted inMemory onDisk thn moved r _ _ ⟨cf, hr, hlk, hK, hN, hA⟩ h6 ih x1 x3 x4 x5 x6 v59 h H locs ls (lv_sub hl [0, 1, 2, 3, 4, 5, 6] rfl) hP hD hS
        · rw [if_neg hc] at h
          refine lv_aload_n hx hb d_R_pointersTo_33 rfl (lv_at hl 0 rfl) ?_
          refine va_get (D := D) (ci := 2) (v := .ref h_p0_d) (C := R_R) (T := F_R) (N := 12) hx hb ht in_R hown hK hP 0 rfl rfl 1 (by decide) (ht _ f_R_13) (fun _ h9 => h9) rfl d_R_pointersTo_34 ?_
          refine lv_iload hx hb d_R_pointersTo_37 (lv_at hl 5 rfl) ?_
          refine lv_iload hx hb d_R_pointersTo_39 (lv_at hl 6 rfl) ?_
          obtain ⟨r41, h41, h⟩ := bd_some h
          refine wk_Si (As := [.int x5, .int x6]) (rest := [.ref h_p0_d]) (wc := []) (w1 := []) (wr := [(h_p0, .inr (2, [.ref h_p0_m, .ref h_p0_d, .ref h_p0_fresh, .ref h_p0_young, .ref h_p0_dropped, .ref h_p0_released, .ref h_p0_owed, .ref h_p0_counted, .ref h_p0_inMemory, .ref h_p0_onDisk, .ref h_p0_thn, .int moved])), (h_p0_m, .inl (cI, 1080, .inl mem)), (h_p0_d, .inl (cI, 1080, .inl dsk)), (h_p0_fresh, .inl (cZ, 36, .inl fresh)), (h_p0_young, .inl (cZ, 288, .inl young)), (h_p0_dropped, .inl (cI, 36, .inl dropped)), (h_p0_released, .inl (cZ, 18, .inl released)), (h_p0_owed, .inl (cI, 18, .inl owed)), (h_p0_counted, .inl (cI, 18, .inl counted)), (h_p0_inMemory, .inl (cZ, 18, .inl inMemory)), (h_p0_onDisk, .inl (cZ, 18, .inl onDisk)), (h_p0_thn, .inl (cZ, 18, .inl thn))]) (wz := (w_R cI cZ h_p0 h_p0_m h_p0_d h_p0_fresh h_p0_young h_p0_dropped h_p0_released h_p0_owed h_p0_counted h_p0_inMemory h_p0_onDisk h_p0_thn mem dsk fresh young dropped released owed counted inMemory onDisk thn moved)) cf hK hN hA (c_R_at l D cI cZ 0 x5 x6 r41 h41) k_R_44 ⟨rfl, rfl, by decide, by decide⟩ hl hP hD hS [] [0, 1, 2, 3, 4, 5, 6, 7, 8, 9, 10, 11] [0, 1, 2, 3, 4, 5, 6, 7, 8, 9, 10, 11] rfl rfl rfl (by decide) rfl rfl rfl rfl rfl (Nat.le_of_ble_eq_true rfl) rfl d_R_pointersTo_41 (fun H locs hP hD hS => ?_)
          obtain ⟨hin, h⟩ := gr_some h
          refine va_iald hx hb hK hP 2 0 rfl rfl hin d_R_pointersTo_44 ?_
          generalize dsk r41.toNatClampNeg = v44 at h ⊢
          refine lv_goto hx hb d_R_pointersTo_45 rfl ?_
          exact w_R_pointersTo_inMemory_60 h_p0 h_p0_m h_p0_d h_p0_fresh h_p0_young h_p0_dropped h_p0_released h_p0_owed h_p0_counted h_p0_inMemory h_p0_onDisk h_p0_thn F mem dsk fresh young dropped released owed counted inMemory onDisk thn moved r _ _ ⟨cf, hr, hlk, hK, hN, hA⟩ h6 ih x1 x3 x4 x5 x6 v44 h H locs ls (lv_sub hl [0, 1, 2, 3, 4, 5, 6] rfl) hP hD hS
set_option maxHeartbeats 4000000 in
set_option maxRecDepth 100000 in
theorem w_R_pointersTo_inMemory_6 {p : Program} {l : Launch} {e : Env} {s : State} {m : MethodId} {args : Array Value} {below : List Frame} {meth : Method} {c : Code} {D : va_G} {cI cZ : ClassId} {A : Nat → Prop} (h_p0 h_p0_m h_p0_d h_p0_fresh h_p0_young h_p0_dropped h_p0_released h_p0_owed h_p0_counted h_p0_inMemory h_p0_onDisk h_p0_thn : Nat) (F : Nat) (mem : (Nat → Int32)) (dsk : (Nat → Int32)) (fresh : (Nat → Int32)) (young : (Nat → Int32)) (dropped : (Nat → Int32)) (released : (Nat → Int32)) (owed : (Nat → Int32)) (counted : (Nat → Int32)) (inMemory : (Nat → Int32)) (onDisk : (Nat → Int32)) (thn : (Nat → Int32)) (moved : Int32) (r : Int32) (cx : cx_ok p s m args meth c b_R_pointersTo 8 o_R_pointersTo "OrderedVolumeModel" (some .int) D cI cZ A) : ∀ (n : Nat) (x1 : Int32) (x3 : Int32) (x4 : Int32) (x5 : Int32), s_R_pointersTo_inMemory_6 F mem dsk inMemory n x1 x3 x4 x5 = some r → wk_G p l e rm_R_pointersTo s m args below meth c (sc_Qi below args s D cI cZ A (w_R cI cZ h_p0 h_p0_m h_p0_d h_p0_fresh h_p0_young h_p0_dropped h_p0_released h_p0_owed h_p0_counted h_p0_inMemory h_p0_onDisk h_p0_thn mem dsk fresh young dropped released owed counted inMemory onDisk thn moved) r) D A 8 6 [] [(0, .ref h_p0), (2, .ref h_p0_inMemory), (1, .int x1), (3, .int x3), (4, .int x4), (5, .int x5)] (w_R cI cZ h_p0 h_p0_m h_p0_d h_p0_fresh h_p0_young h_p0_dropped h_p0_released h_p0_owed h_p0_counted h_p0_inMemory h_p0_onDisk h_p0_thn mem dsk fresh young dropped released owed counted inMemory onDisk thn moved) := by
  obtain ⟨cf, hr, hlk, hK, hN, hA⟩ := cx
  have hx := cf.1
  have hb := cf.2.1
  have hown := cf.2.2.2.1
  have ht : ∀ w ∈ wA, w.before args s = true := fun w h => cf.2.2.2.2 w (List.mem_cons_of_mem _ h)
  intro n
  induction n with
  | zero => intro x1 x3 x4 x5 h; cases (show (none : Option (Int32)) = some _ from h)
  | succ n ih =>
    intro x1 x3 x4 x5 h H locs ls hl hP hD hS
    unfold s_R_pointersTo_inMemory_6 at h
    refine lv_iload hx hb d_R_pointersTo_6 (lv_at hl 5 rfl) ?_
    refine lv_bipush (v := (nI 18)) hx hb d_R_pointersTo_8 (by decide) ?_
    refine lv_icmp_ge hx hb d_R_pointersTo_10 rfl (fun hc => ?_) (fun hc => ?_)
    · rw [if_pos hc] at h
      refine lv_iload hx hb d_R_pointersTo_91 (lv_at hl 4 rfl) ?_
      cases h
      exact sc_iret cf hr hlk hK hP hD hS d_R_pointersTo_93
    · rw [if_neg hc] at h
      refine lv_iconst (v := (nI 2)) hx hb d_R_pointersTo_13 (by decide) ?_
      refine lv_istore (lv' := [(6, .int (nI 2)), (0, .ref h_p0), (2, .ref h_p0_inMemory), (1, .int x1), (3, .int x3), (4, .int x4), (5, .int x5)]) hx hb d_R_pointersTo_14 hl (by decide) rfl (fun ls hl => ?_)
      exact w_R_pointersTo_inMemory_16 h_p0 h_p0_m h_p0_d h_p0_fresh h_p0_young h_p0_dropped h_p0_released h_p0_owed h_p0_counted h_p0_inMemory h_p0_onDisk h_p0_thn F mem dsk fresh young dropped released owed counted inMemory onDisk thn moved r _ ⟨cf, hr, hlk, hK, hN, hA⟩ ih F x1 x3 x4 x5 (nI 2) h H locs ls (lv_sub hl [1, 2, 3, 4, 5, 6, 0] rfl) hP hD hS
set_option maxHeartbeats 4000000 in
set_option maxRecDepth 100000 in
theorem c_R_pointersTo_inMemory (l : Launch) (D : va_G) (cI cZ : ClassId) (h_p0 h_p0_m h_p0_d h_p0_fresh h_p0_young h_p0_dropped h_p0_released h_p0_owed h_p0_counted h_p0_inMemory h_p0_onDisk h_p0_thn : Nat) (F : Nat) (mem : (Nat → Int32)) (dsk : (Nat → Int32)) (fresh : (Nat → Int32)) (young : (Nat → Int32)) (dropped : (Nat → Int32)) (released : (Nat → Int32)) (owed : (Nat → Int32)) (counted : (Nat → Int32)) (inMemory : (Nat → Int32)) (onDisk : (Nat → Int32)) (thn : (Nat → Int32)) (moved : Int32) (x1 : Int32) (x3 : Int32) (r : Int32) (h : s_R_pointersTo_inMemory F mem dsk inMemory x1 x3 = some r) : sc_i l y_R_pointersTo (o_R_pointersTo :: wA) rm_R_pointersTo D cI cZ [.ref h_p0, .int x1, .ref h_p0_inMemory, .int x3] (w_R cI cZ h_p0 h_p0_m h_p0_d h_p0_fresh h_p0_young h_p0_dropped h_p0_released h_p0_owed h_p0_counted h_p0_inMemory h_p0_onDisk h_p0_thn mem dsk fresh young dropped released owed counted inMemory onDisk thn moved) (w_R cI cZ h_p0 h_p0_m h_p0_d h_p0_fresh h_p0_young h_p0_dropped h_p0_released h_p0_owed h_p0_counted h_p0_inMemory h_p0_onDisk h_p0_thn mem dsk fresh young dropped released owed counted inMemory onDisk thn moved) r := by
  refine sc_i_of (cc := b_R_pointersTo) (maxL := 8) (ret := (some .int)) (by decide) rfl (Nat.le_of_ble_eq_true rfl) ?_
  intro p e s m below meth c A cf hr hlk hK hN hA H locs ls hl hP hD hS
  have hx := cf.1
  have hb := cf.2.1
  have hown := cf.2.2.2.1
  have ht : ∀ w ∈ wA, w.before _ s = true := fun w h => cf.2.2.2.2 w (List.mem_cons_of_mem _ h)
  unfold s_R_pointersTo_inMemory at h
  have hl : lv_has ls 8 [(0, .ref h_p0), (1, .int x1), (2, .ref h_p0_inMemory), (3, .int x3)] := hl
  refine lv_iconst (v := (nI 0)) hx hb d_R_pointersTo_0 (by decide) ?_
  refine lv_istore (lv' := [(4, .int (nI 0)), (0, .ref h_p0), (1, .int x1), (2, .ref h_p0_inMemory), (3, .int x3)]) hx hb d_R_pointersTo_1 hl (by decide) rfl (fun ls hl => ?_)
  refine lv_iconst (v := (nI 0)) hx hb d_R_pointersTo_3 (by decide) ?_
  refine lv_istore (lv' := [(5, .int (nI 0)), (4, .int (nI 0)), (0, .ref h_p0), (1, .int x1), (2, .ref h_p0_inMemory), (3, .int x3)]) hx hb d_R_pointersTo_4 hl (by decide) rfl (fun ls hl => ?_)
  exact w_R_pointersTo_inMemory_6 h_p0 h_p0_m h_p0_d h_p0_fresh h_p0_young h_p0_dropped h_p0_released h_p0_owed h_p0_counted h_p0_inMemory h_p0_onDisk h_p0_thn F mem dsk fresh young dropped released owed counted inMemory onDisk thn moved r ⟨cf, hr, hlk, hK, hN, hA⟩ F x1 x3 (nI 0) (nI 0) h H locs ls (lv_sub hl [2, 4, 3, 5, 1, 0] rfl) hP hD hS
set_option maxHeartbeats 4000000 in
set_option maxRecDepth 100000 in
theorem w_R_reclaim_229 {p : Program} {l : Launch} {e : Env} {s : State} {m : MethodId} {args : Array Value} {below : List Frame} {meth : Method} {c : Code} {D : va_G} {cI cZ : ClassId} {A : Nat → Prop} (h_p0 h_p0_m h_p0_d h_p0_fresh h_p0_young h_p0_dropped h_p0_released h_p0_owed h_p0_counted h_p0_inMemory h_p0_onDisk h_p0_thn : Nat) (F : Nat) (young' : (Nat → Int32)) (dropped' : (Nat → Int32)) (mem' : (Nat → Int32)) (dsk' : (Nat → Int32)) (fresh' : (Nat → Int32)) (released' : (Nat → Int32)) (owed' : (Nat → Int32)) (counted' : (Nat → Int32)) (inMemory' : (Nat → Int32)) (onDisk' : (Nat → Int32)) (thn' : (Nat → Int32)) (moved' : Int32) (r : Int32) (k191 : Int32 → Int32 → (Nat → Int32) → (Nat → Int32) → (Nat → Int32) → (Nat → Int32) → (Nat → Int32) → (Nat → Int32) → (Nat → Int32) → (Nat → Int32) → (Nat → Int32) → (Nat → Int32) → (Nat → Int32) → Int32 → Option (Int32 × (Nat → Int32) × (Nat → Int32) × (Nat → Int32) × (Nat → Int32) × (Nat → Int32) × (Nat → Int32) × (Nat → Int32) × (Nat → Int32) × (Nat → Int32) × (Nat → Int32) × (Nat → Int32) × Int32)) (cx : cx_ok p s m args meth c b_R_reclaim 4 o_R_reclaim "OrderedVolumeModel" (some .int) D cI cZ A) (h191 : (∀ (x1 : Int32) (x2 : Int32) (young : (Nat → Int32)) (dropped : (Nat → Int32)) (mem : (Nat → Int32)) (dsk : (Nat → Int32)) (fresh : (Nat → Int32)) (released : (Nat → Int32)) (owed : (Nat → Int32)) (counted : (Nat → Int32)) (inMemory : (Nat → Int32)) (onDisk : (Nat → Int32)) (thn : (Nat → Int32)) (moved : Int32), k191 x1 x2 young dropped mem dsk fresh released owed counted inMemory onDisk thn moved = some (r, young', dropped', mem', dsk', fresh', released', owed', counted', inMemory', onDisk', thn', moved') → wk_G p l e rm_R_reclaim s m args below meth c (sc_Qi below args s D cI cZ A (w_R cI cZ h_p0 h_p0_m h_p0_d h_p0_fresh h_p0_young h_p0_dropped h_p0_released h_p0_owed h_p0_counted h_p0_inMemory h_p0_onDisk h_p0_thn (mem') (dsk') (fresh') (young') (dropped') (released') (owed') (counted') (inMemory') (onDisk') (thn') (moved')) r) D A 4 191 [] [(0, .ref h_p0), (1, .int x1), (2, .int x2)] (w_R cI cZ h_p0 h_p0_m h_p0_d h_p0_fresh h_p0_young h_p0_dropped h_p0_released h_p0_owed h_p0_counted h_p0_inMemory h_p0_onDisk h_p0_thn mem dsk fresh young dropped released owed counted inMemory onDisk thn moved))) : ∀ (x1 : Int32) (x2 : Int32) (t1 : Int32) (t2 : Int32) (young : (Nat → Int32)) (dropped : (Nat → Int32)) (mem : (Nat → Int32)) (dsk : (Nat → Int32)) (fresh : (Nat → Int32)) (released : (Nat → Int32)) (owed : (Nat → Int32)) (counted : (Nat → Int32)) (inMemory : (Nat → Int32)) (onDisk : (Nat → Int32)) (thn : (Nat → Int32)) (moved : Int32), s_R_reclaim_229 F k191 x1 x2 t1 t2 young dropped mem dsk fresh released owed counted inMemory onDisk thn moved = some (r, young', dropped', mem', dsk', fresh', released', owed', counted', inMemory', onDisk', thn', moved') → wk_G p l e rm_R_reclaim s m args below meth c (sc_Qi below args s D cI cZ A (w_R cI cZ h_p0 h_p0_m h_p0_d h_p0_fresh h_p0_young h_p0_dropped h_p0_released h_p0_owed h_p0_counted h_p0_inMemory h_p0_onDisk h_p0_thn (mem') (dsk') (fresh') (young') (dropped') (released') (owed') (counted') (inMemory') (onDisk') (thn') (moved')) r) D A 4 229 [.int t2, .int t1, .ref h_p0_d] [(0, .ref h_p0), (1, .int x1), (2, .int x2)] (w_R cI cZ h_p0 h_p0_m h_p0_d h_p0_fresh h_p0_young h_p0_dropped h_p0_released h_p0_owed h_p0_counted h_p0_inMemory h_p0_onDisk h_p0_thn mem dsk fresh young dropped released owed counted inMemory onDisk thn moved) := by
  obtain ⟨cf, hr, hlk, hK, hN, hA⟩ := cx
  have hx := cf.1
  have hb := cf.2.1
  have hown := cf.2.2.2.1
  have ht : ∀ w ∈ wA, w.before args s = true := fun w h => cf.2.2.2.2 w (List.mem_cons_of_mem _ h)
  intro x1 x2 t1 t2 young dropped mem dsk fresh released owed counted inMemory onDisk thn moved h H locs ls hl hP hD hS
  unfold s_R_reclaim_229 at h
  obtain ⟨hin, h⟩ := ga_some h
  refine va_iast hx hb hK hP hD hS 2 0 rfl rfl hin d_R_reclaim_229 (fun H locs hP hD hS => ?_)
  have hP : va_P D clA (w_R cI cZ h_p0 h_p0_m h_p0_d h_p0_fresh h_p0_young h_p0_dropped h_p0_released h_p0_owed h_p0_counted h_p0_inMemory h_p0_onDisk h_p0_thn mem (upd dsk t1.toNatClampNeg t2) fresh young dropped released owed counted inMemory onDisk thn moved) H := hP
  have hD : va_D A (w_R cI cZ h_p0 h_p0_m h_p0_d h_p0_fresh h_p0_young h_p0_dropped h_p0_released h_p0_owed h_p0_counted h_p0_inMemory h_p0_onDisk h_p0_thn mem (upd dsk t1.toNatClampNeg t2) fresh young dropped released owed counted inMemory onDisk thn moved) := hD
  refine lv_iinc (k := 2) (v := (x2 + (nI 1))) (lv' := [(2, .int (x2 + (nI 1))), (0, .ref h_p0), (1, .int x1)]) hx hb d_R_reclaim_230 hl rfl rfl (by decide) rfl (fun ls hl => ?_)
  refine lv_goto hx hb d_R_reclaim_233 rfl ?_
  exact h191 x1 (x2 + (nI 1)) young dropped mem (upd dsk t1.toNatClampNeg t2) fresh released owed counted inMemory onDisk thn moved h H locs ls (lv_sub hl [1, 2, 0] rfl) hP hD hS
set_option maxHeartbeats 4000000 in
set_option maxRecDepth 100000 in
theorem w_R_reclaim_191 {p : Program} {l : Launch} {e : Env} {s : State} {m : MethodId} {args : Array Value} {below : List Frame} {meth : Method} {c : Code} {D : va_G} {cI cZ : ClassId} {A : Nat → Prop} (h_p0 h_p0_m h_p0_d h_p0_fresh h_p0_young h_p0_dropped h_p0_released h_p0_owed h_p0_counted h_p0_inMemory h_p0_onDisk h_p0_thn : Nat) (F : Nat) (young' : (Nat → Int32)) (dropped' : (Nat → Int32)) (mem' : (Nat → Int32)) (dsk' : (Nat → Int32)) (fresh' : (Nat → Int32)) (released' : (Nat → Int32)) (owed' : (Nat → Int32)) (counted' : (Nat → Int32)) (inMemory' : (Nat → Int32)) (onDisk' : (Nat → Int32)) (thn' : (Nat → Int32)) (moved' : Int32) (r : Int32) (cx : cx_ok p s m args meth c b_R_reclaim 4 o_R_reclaim "OrderedVolumeModel" (some .int) D cI cZ A) : ∀ (n : Nat) (x1 : Int32) (x2 : Int32) (young : (Nat → Int32)) (dropped : (Nat → Int32)) (mem : (Nat → Int32)) (dsk : (Nat → Int32)) (fresh : (Nat → Int32)) (released : (Nat → Int32)) (owed : (Nat → Int32)) (counted : (Nat → Int32)) (inMemory : (Nat → Int32)) (onDisk : (Nat → Int32)) (thn : (Nat → Int32)) (moved : Int32), s_R_reclaim_191 F n x1 x2 young dropped mem dsk fresh released owed counted inMemory onDisk thn moved = some (r, young', dropped', mem', dsk', fresh', released', owed', counted', inMemory', onDisk', thn', moved') → wk_G p l e rm_R_reclaim s m args below meth c (sc_Qi below args s D cI cZ A (w_R cI cZ h_p0 h_p0_m h_p0_d h_p0_fresh h_p0_young h_p0_dropped h_p0_released h_p0_owed h_p0_counted h_p0_inMemory h_p0_onDisk h_p0_thn (mem') (dsk') (fresh') (young') (dropped') (released') (owed') (counted') (inMemory') (onDisk') (thn') (moved')) r) D A 4 191 [] [(0, .ref h_p0), (1, .int x1), (2, .int x2)] (w_R cI cZ h_p0 h_p0_m h_p0_d h_p0_fresh h_p0_young h_p0_dropped h_p0_released h_p0_owed h_p0_counted h_p0_inMemory h_p0_onDisk h_p0_thn mem dsk fresh young dropped released owed counted inMemory onDisk thn moved) := by
  obtain ⟨cf, hr, hlk, hK, hN, hA⟩ := cx
  have hx := cf.1
  have hb := cf.2.1
  have hown := cf.2.2.2.1
  have ht : ∀ w ∈ wA, w.before args s = true := fun w h => cf.2.2.2.2 w (List.mem_cons_of_mem _ h)
  intro n
  induction n with
  | zero => intro x1 x2 young dropped mem dsk fresh released owed counted inMemory onDisk thn moved h; cases (show (none : Option (Int32 × (Nat → Int32) × (Nat → Int32) × (Nat → Int32) × (Nat → Int32) × (Nat → Int32) × (Nat → Int32) × (Nat → Int32) × (Nat → Int32) × (Nat → Int32) × (Nat → Int32) × (Nat → Int32) × Int32)) = some _ from h)
  | succ n ih =>
    intro x1 x2 young dropped mem dsk fresh released owed counted inMemory onDisk thn moved h H locs ls hl hP hD hS
    unfold s_R_reclaim_191 at h
    refine lv_iload_n hx hb d_R_reclaim_191 rfl (lv_at hl 2 rfl) ?_
    refine lv_sipush (v := (nI 1080)) hx hb d_R_reclaim_192 (by decide) ?_
    refine lv_icmp_ge hx hb d_R_reclaim_195 rfl (fun hc => ?_) (fun hc => ?_)
    · rw [if_pos hc] at h
      refine lv_iload_n hx hb d_R_reclaim_236 rfl (lv_at hl 1 rfl) ?_
      cases h
      exact sc_iret cf hr hlk hK hP hD hS d_R_reclaim_237
    · rw [if_neg hc] at h
      refine lv_aload_n hx hb d_R_reclaim_198 rfl (lv_at hl 0 rfl) ?_
      refine va_get (D := D) (ci := 2) (v := .ref h_p0_d) (C := R_R) (T := F_R) (N := 12) hx hb ht in_R hown hK hP 0 rfl rfl 1 (by decide) (ht _ f_R_13) (fun _ h9 => h9) rfl d_R_reclaim_199 ?_
      refine lv_iload_n hx hb d_R_reclaim_202 rfl (lv_at hl 2 rfl) ?_
      refine lv_iload_n hx hb d_R_reclaim_203 rfl (lv_at hl 2 rfl) ?_
      refine lv_bipush (v := (nI 30)) hx hb d_R_reclaim_204 (by decide) ?_
      refine lv_idiv hx hb d_R_reclaim_206 (by decide) ?_
      refine lv_bipush (v := (nI 12)) hx hb d_R_reclaim_207 (by decide) ?_
      refine lv_irem hx hb d_R_reclaim_209 (by decide) ?_
      refine lv_iconst (v := (nI 2)) hx hb d_R_reclaim_210 (by decide) ?_
      refine lv_icmp_ge hx hb d_R_reclaim_211 rfl (fun hc => ?_) (fun hc => ?_)
      · rw [if_pos hc] at h
        refine lv_aload_n hx hb d_R_reclaim_223 rfl (lv_at hl 0 rfl) ?_
        refine va_get (D := D) (ci := 2) (v := .ref h_p0_d) (C := R_R) (T := F_R) (N := 12) hx hb ht in_R hown hK hP 0 rfl rfl 1 (by decide) (ht _ f_R_13) (fun _ h9 => h9) rfl d_R_reclaim_224 ?_
        refine lv_iload_n hx hb d_R_reclaim_227 rfl (lv_at hl 2 rfl) ?_
        obtain ⟨hin, h⟩ := gr_some h
        refine va_iald hx hb hK hP 2 0 rfl rfl hin d_R_reclaim_228 ?_
        generalize dsk x2.toNatClampNeg = v228 at h ⊢
        exact w_R_reclaim_229 h_p0 h_p0_m h_p0_d h_p0_fresh h_p0_young h_p0_dropped h_p0_released h_p0_owed h_p0_counted h_p0_inMemory h_p0_onDisk h_p0_thn F young' dropped' mem' dsk' fresh' released' owed' counted' inMemory' onDisk' thn' moved' r _ ⟨cf, hr, hlk, hK, hN, hA⟩ ih x1 x2 x2 v228 young dropped mem dsk fresh released owed counted inMemory onDisk thn moved h H locs ls (lv_sub hl [0, 1, 2] rfl) hP hD hS
      · rw [if_neg hc] at h
        refine lv_aload_n hx hb d_R_reclaim_214 rfl (lv_at hl 0 rfl) ?_
        refine va_get (D := D) (ci := 2) (v := .ref h_p0_m) (C := R_R) (T := F_R) (N := 12) hx hb ht in_R hown hK hP 0 rfl rfl 0 (by decide) (ht _ f_R_7) (fun _ h9 => h9) rfl d_R_reclaim_215 ?_
        refine lv_iload_n hx hb d_R_reclaim_218 rfl (lv_at hl 2 rfl) ?_
        obtain ⟨hin, h⟩ := gr_some h
        refine va_iald hx hb hK hP 1 0 rfl rfl hin d_R_reclaim_219 ?_
        generalize mem x2.toNatClampNeg = v219 at h ⊢
        refine lv_goto hx hb d_R_reclaim_220 rfl ?_
        exact w_R_reclaim_229 h_p0 h_p0_m h_p0_d h_p0_fresh h_p0_young h_p0_dropped h_p0_released h_p0_owed h_p0_counted h_p0_inMemory h_p0_onDisk h_p0_thn F young' dropped' mem' dsk' fresh' released' owed' counted' inMemory' onDisk' thn' moved' r _ ⟨cf, hr, hlk, hK, hN, hA⟩ ih x1 x2 x2 v219 young dropped mem dsk fresh released owed counted inMemory onDisk thn moved h H locs ls (lv_sub hl [0, 1, 2] rfl) hP hD hS
set_option maxHeartbeats 4000000 in
set_option maxRecDepth 100000 in
theorem w_R_reclaim_134 {p : Program} {l : Launch} {e : Env} {s : State} {m : MethodId} {args : Array Value} {below : List Frame} {meth : Method} {c : Code} {D : va_G} {cI cZ : ClassId} {A : Nat → Prop} (h_p0 h_p0_m h_p0_d h_p0_fresh h_p0_young h_p0_dropped h_p0_released h_p0_owed h_p0_counted h_p0_inMemory h_p0_onDisk h_p0_thn : Nat) (F : Nat) (young' : (Nat → Int32)) (dropped' : (Nat → Int32)) (mem' : (Nat → Int32)) (dsk' : (Nat → Int32)) (fresh' : (Nat → Int32)) (released' : (Nat → Int32)) (owed' : (Nat → Int32)) (counted' : (Nat → Int32)) (inMemory' : (Nat → Int32)) (onDisk' : (Nat → Int32)) (thn' : (Nat → Int32)) (moved' : Int32) (r : Int32) (cx : cx_ok p s m args meth c b_R_reclaim 4 o_R_reclaim "OrderedVolumeModel" (some .int) D cI cZ A) : ∀ (n : Nat) (x1 : Int32) (x2 : Int32) (young : (Nat → Int32)) (dropped : (Nat → Int32)) (mem : (Nat → Int32)) (dsk : (Nat → Int32)) (fresh : (Nat → Int32)) (released : (Nat → Int32)) (owed : (Nat → Int32)) (counted : (Nat → Int32)) (inMemory : (Nat → Int32)) (onDisk : (Nat → Int32)) (thn : (Nat → Int32)) (moved : Int32), s_R_reclaim_134 F n x1 x2 young dropped mem dsk fresh released owed counted inMemory onDisk thn moved = some (r, young', dropped', mem', dsk', fresh', released', owed', counted', inMemory', onDisk', thn', moved') → wk_G p l e rm_R_reclaim s m args below meth c (sc_Qi below args s D cI cZ A (w_R cI cZ h_p0 h_p0_m h_p0_d h_p0_fresh h_p0_young h_p0_dropped h_p0_released h_p0_owed h_p0_counted h_p0_inMemory h_p0_onDisk h_p0_thn (mem') (dsk') (fresh') (young') (dropped') (released') (owed') (counted') (inMemory') (onDisk') (thn') (moved')) r) D A 4 134 [] [(0, .ref h_p0), (1, .int x1), (2, .int x2)] (w_R cI cZ h_p0 h_p0_m h_p0_d h_p0_fresh h_p0_young h_p0_dropped h_p0_released h_p0_owed h_p0_counted h_p0_inMemory h_p0_onDisk h_p0_thn mem dsk fresh young dropped released owed counted inMemory onDisk thn moved) := by
  obtain ⟨cf, hr, hlk, hK, hN, hA⟩ := cx
  have hx := cf.1
  have hb := cf.2.1
  have hown := cf.2.2.2.1
  have ht : ∀ w ∈ wA, w.before args s = true := fun w h => cf.2.2.2.2 w (List.mem_cons_of_mem _ h)
  intro n
  induction n with
  | zero => intro x1 x2 young dropped mem dsk fresh released owed counted inMemory onDisk thn moved h; cases (show (none : Option (Int32 × (Nat → Int32) × (Nat → Int32) × (Nat → Int32) × (Nat → Int32) × (Nat → Int32) × (Nat → Int32) × (Nat → Int32) × (Nat → Int32) × (Nat → Int32) × (Nat → Int32) × (Nat → Int32) × Int32)) = some _ from h)
  | succ n ih =>
    intro x1 x2 young dropped mem dsk fresh released owed counted inMemory onDisk thn moved h H locs ls hl hP hD hS
    unfold s_R_reclaim_134 at h
    refine lv_iload_n hx hb d_R_reclaim_134 rfl (lv_at hl 2 rfl) ?_
    refine lv_bipush (v := (nI 36)) hx hb d_R_reclaim_135 (by decide) ?_
    refine lv_icmp_ge hx hb d_R_reclaim_137 rfl (fun hc => ?_) (fun hc => ?_)
    · rw [if_pos hc] at h
      refine lv_iconst (v := (nI 0)) hx hb d_R_reclaim_189 (by decide) ?_
      refine lv_istore_n (lv' := [(2, .int (nI 0)), (0, .ref h_p0), (1, .int x1)]) hx hb d_R_reclaim_190 rfl hl (by decide) rfl (fun ls hl => ?_)
      exact w_R_reclaim_191 h_p0 h_p0_m h_p0_d h_p0_fresh h_p0_young h_p0_dropped h_p0_released h_p0_owed h_p0_counted h_p0_inMemory h_p0_onDisk h_p0_thn F young' dropped' mem' dsk' fresh' released' owed' counted' inMemory' onDisk' thn' moved' r ⟨cf, hr, hlk, hK, hN, hA⟩ F x1 (nI 0) young dropped mem dsk fresh released owed counted inMemory onDisk thn moved h H locs ls (lv_sub hl [1, 2, 0] rfl) hP hD hS
    · rw [if_neg hc] at h
      refine lv_iload_n hx hb d_R_reclaim_140 rfl (lv_at hl 2 rfl) ?_
      refine lv_bipush (v := (nI 12)) hx hb d_R_reclaim_141 (by decide) ?_
      refine lv_irem hx hb d_R_reclaim_143 (by decide) ?_
      refine lv_iconst (v := (nI 1)) hx hb d_R_reclaim_144 (by decide) ?_
      refine lv_icmp_le hx hb d_R_reclaim_145 rfl (fun hc => ?_) (fun hc => ?_)
      · rw [if_pos hc] at h
        refine lv_iinc (k := 2) (v := (x2 + (nI 1))) (lv' := [(2, .int (x2 + (nI 1))), (0, .ref h_p0), (1, .int x1)]) hx hb d_R_reclaim_183 hl rfl rfl (by decide) rfl (fun ls hl => ?_)
        refine lv_goto hx hb d_R_reclaim_186 rfl ?_
        exact ih x1 (x2 + (nI 1)) young dropped mem dsk fresh released owed counted inMemory onDisk thn moved h H locs ls (lv_sub hl [1, 2, 0] rfl) hP hD hS
      · rw [if_neg hc] at h
        refine lv_aload_n hx hb d_R_reclaim_148 rfl (lv_at hl 0 rfl) ?_
        refine lv_iconst (v := (nI 0)) hx hb d_R_reclaim_149 (by decide) ?_
        refine lv_aload_n hx hb d_R_reclaim_150 rfl (lv_at hl 0 rfl) ?_
        refine va_get (D := D) (ci := 2) (v := .ref h_p0_inMemory) (C := R_R) (T := F_R) (N := 12) hx hb ht in_R hown hK hP 0 rfl rfl 8 (by decide) (ht _ f_R_35) (fun _ h9 => h9) rfl d_R_reclaim_151 ?_
        refine lv_iload_n hx hb d_R_reclaim_154 rfl (lv_at hl 2 rfl) ?_
        obtain ⟨r155, h155, h⟩ := bd_some h
        refine wk_Vi (As := [.int (nI 0), .ref h_p0_inMemory, .int x2]) (rest := []) (wc := (w_R cI cZ h_p0 h_p0_m h_p0_d h_p0_fresh h_p0_young h_p0_dropped h_p0_released h_p0_owed h_p0_counted h_p0_inMemory h_p0_onDisk h_p0_thn mem dsk fresh young dropped released owed counted inMemory onDisk thn moved)) (w1 := (w_R cI cZ h_p0 h_p0_m h_p0_d h_p0_fresh h_p0_young h_p0_dropped h_p0_released h_p0_owed h_p0_counted h_p0_inMemory h_p0_onDisk h_p0_thn mem dsk fresh young dropped released owed counted inMemory onDisk thn moved)) (wr := []) (wz := (w_R cI cZ h_p0 h_p0_m h_p0_d h_p0_fresh h_p0_young h_p0_dropped h_p0_released h_p0_owed h_p0_counted h_p0_inMemory h_p0_onDisk h_p0_thn mem dsk fresh young dropped released owed counted inMemory onDisk thn moved)) cf hK hN hA (c_R_pointersTo_inMemory l D cI cZ h_p0 h_p0_m h_p0_d h_p0_fresh h_p0_young h_p0_dropped h_p0_released h_p0_owed h_p0_counted h_p0_inMemory h_p0_onDisk h_p0_thn F mem dsk fresh young dropped released owed counted inMemory onDisk thn moved (nI 0) x2 r155 h155) k_R_173 ⟨rfl, rfl, by decide, by decide⟩ 2 rfl rfl rfl hl hP hD hS [0, 1, 2, 3, 4, 5, 6, 7, 8, 9, 10, 11] [] [0, 1, 2, 3, 4, 5, 6, 7, 8, 9, 10, 11] rfl rfl rfl (by decide) rfl rfl rfl rfl rfl (Nat.le_of_ble_eq_true rfl) rfl d_R_reclaim_155 (fun H locs hP hD hS => ?_)
        refine lv_if_ne hx hb d_R_reclaim_158 rfl (fun hc => ?_) (fun hc => ?_)
        · rw [if_neg hc] at h
          refine lv_iinc (k := 2) (v := (x2 + (nI 1))) (lv' := [(2, .int (x2 + (nI 1))), (0, .ref h_p0), (1, .int x1)]) hx hb d_R_reclaim_183 hl rfl rfl (by decide) rfl (fun ls hl => ?_)
          refine lv_goto hx hb d_R_reclaim_186 rfl ?_
          exact ih x1 (x2 + (nI 1)) young dropped mem dsk fresh released owed counted inMemory onDisk thn moved h H locs ls (lv_sub hl [1, 2, 0] rfl) hP hD hS
        · rw [if_pos hc] at h
          refine lv_iload_n hx hb d_R_reclaim_161 rfl (lv_at hl 1 rfl) ?_
          refine lv_aload_n hx hb d_R_reclaim_162 rfl (lv_at hl 0 rfl) ?_
          refine va_get (D := D) (ci := 2) (v := .ref h_p0_m) (C := R_R) (T := F_R) (N := 12) hx hb ht in_R hown hK hP 0 rfl rfl 0 (by decide) (ht _ f_R_7) (fun _ h9 => h9) rfl d_R_reclaim_163 ?_
          refine lv_iload_n hx hb d_R_reclaim_166 rfl (lv_at hl 2 rfl) ?_
          obtain ⟨r167, h167, h⟩ := bd_some h
          refine wk_Si (As := [.int x2]) (rest := [.ref h_p0_m, .int x1]) (wc := []) (w1 := []) (wr := [(h_p0, .inr (2, [.ref h_p0_m, .ref h_p0_d, .ref h_p0_fresh, .ref h_p0_young, .ref h_p0_dropped, .ref h_p0_released, .ref h_p0_owed, .ref h_p0_counted, .ref h_p0_inMemory, .ref h_p0_onDisk, .ref h_p0_thn, .int moved])), (h_p0_m, .inl (cI, 1080, .inl mem)), (h_p0_d, .inl (cI, 1080, .inl dsk)), (h_p0_fresh, .inl (cZ, 36, .inl fresh)), (h_p0_young, .inl (cZ, 288, .inl young)), (h_p0_dropped, .inl (cI, 36, .inl dropped)), (h_p0_released, .inl (cZ, 18, .inl released)), (h_p0_owed, .inl (cI, 18, .inl owed)), (h_p0_counted, .inl (cI, 18, .inl counted)), (h_p0_inMemory, .inl (cZ, 18, .inl inMemory)), (h_p0_onDisk, .inl (cZ, 18, .inl onDisk)), (h_p0_thn, .inl (cZ, 18, .inl thn))]) (wz := (w_R cI cZ h_p0 h_p0_m h_p0_d h_p0_fresh h_p0_young h_p0_dropped h_p0_released h_p0_owed h_p0_counted h_p0_inMemory h_p0_onDisk h_p0_thn mem dsk fresh young dropped released owed counted inMemory onDisk thn moved)) cf hK hN hA (c_R_markOfBlock l D cI cZ 0 x2 r167 h167) k_R_52 ⟨rfl, rfl, by decide, by decide⟩ hl hP hD hS [] [0, 1, 2, 3, 4, 5, 6, 7, 8, 9, 10, 11] [0, 1, 2, 3, 4, 5, 6, 7, 8, 9, 10, 11] rfl rfl rfl (by decide) rfl rfl rfl rfl rfl (Nat.le_of_ble_eq_true rfl) rfl d_R_reclaim_167 (fun H locs hP hD hS => ?_)
          obtain ⟨hin, h⟩ := gr_some h
          refine va_iald hx hb hK hP 1 0 rfl rfl hin d_R_reclaim_170 ?_
          generalize mem r167.toNatClampNeg = v170 at h ⊢
          refine lv_iadd hx hb d_R_reclaim_171 ?_
          refine lv_istore_n (lv' := [(1, .int (x1 + v170)), (0, .ref h_p0), (2, .int x2)]) hx hb d_R_reclaim_172 rfl hl (by decide) rfl (fun ls hl => ?_)
          refine lv_aload_n hx hb d_R_reclaim_173 rfl (lv_at hl 1 rfl) ?_
          refine va_get (D := D) (ci := 2) (v := .ref h_p0_m) (C := R_R) (T := F_R) (N := 12) hx hb ht in_R hown hK hP 0 rfl rfl 0 (by decide) (ht _ f_R_7) (fun _ h9 => h9) rfl d_R_reclaim_174 ?_
          refine lv_iload_n hx hb d_R_reclaim_177 rfl (lv_at hl 2 rfl) ?_
          obtain ⟨r178, h178, h⟩ := bd_some h
          refine wk_Si (As := [.int x2]) (rest := [.ref h_p0_m]) (wc := []) (w1 := []) (wr := [(h_p0, .inr (2, [.ref h_p0_m, .ref h_p0_d, .ref h_p0_fresh, .ref h_p0_young, .ref h_p0_dropped, .ref h_p0_released, .ref h_p0_owed, .ref h_p0_counted, .ref h_p0_inMemory, .ref h_p0_onDisk, .ref h_p0_thn, .int moved])), (h_p0_m, .inl (cI, 1080, .inl mem)), (h_p0_d, .inl (cI, 1080, .inl dsk)), (h_p0_fresh, .inl (cZ, 36, .inl fresh)), (h_p0_young, .inl (cZ, 288, .inl young)), (h_p0_dropped, .inl (cI, 36, .inl dropped)), (h_p0_released, .inl (cZ, 18, .inl released)), (h_p0_owed, .inl (cI, 18, .inl owed)), (h_p0_counted, .inl (cI, 18, .inl counted)), (h_p0_inMemory, .inl (cZ, 18, .inl inMemory)), (h_p0_onDisk, .inl (cZ, 18, .inl onDisk)), (h_p0_thn, .inl (cZ, 18, .inl thn))]) (wz := (w_R cI cZ h_p0 h_p0_m h_p0_d h_p0_fresh h_p0_young h_p0_dropped h_p0_released h_p0_owed h_p0_counted h_p0_inMemory h_p0_onDisk h_p0_thn mem dsk fresh young dropped released owed counted inMemory onDisk thn moved)) cf hK hN hA (c_R_markOfBlock l D cI cZ 0 x2 r178 h178) k_R_52 ⟨rfl, rfl, by decide, by decide⟩ hl hP hD hS [] [0, 1, 2, 3, 4, 5, 6, 7, 8, 9, 10, 11] [0, 1, 2, 3, 4, 5, 6, 7, 8, 9, 10, 11] rfl rfl rfl (by decide) rfl rfl rfl rfl rfl (Nat.le_of_ble_eq_true rfl) rfl d_R_reclaim_178 (fun H locs hP hD hS => ?_)
          refine lv_iconst (v := (nI 0)) hx hb d_R_reclaim_181 (by decide) ?_
          obtain ⟨hin, h⟩ := ga_some h
          refine va_iast hx hb hK hP hD hS 1 0 rfl rfl hin d_R_reclaim_182 (fun H locs hP hD hS => ?_)
          have hP : va_P D clA (w_R cI cZ h_p0 h_p0_m h_p0_d h_p0_fresh h_p0_young h_p0_dropped h_p0_released h_p0_owed h_p0_counted h_p0_inMemory h_p0_onDisk h_p0_thn (upd mem r178.toNatClampNeg (nI 0)) dsk fresh young dropped released owed counted inMemory onDisk thn moved) H := hP
          have hD : va_D A (w_R cI cZ h_p0 h_p0_m h_p0_d h_p0_fresh h_p0_young h_p0_dropped h_p0_released h_p0_owed h_p0_counted h_p0_inMemory h_p0_onDisk h_p0_thn (upd mem r178.toNatClampNeg (nI 0)) dsk fresh young dropped released owed counted inMemory onDisk thn moved) := hD
          refine lv_iinc (k := 2) (v := (x2 + (nI 1))) (lv' := [(2, .int (x2 + (nI 1))), (1, .int (x1 + v170)), (0, .ref h_p0)]) hx hb d_R_reclaim_183 hl rfl rfl (by decide) rfl (fun ls hl => ?_)
          refine lv_goto hx hb d_R_reclaim_186 rfl ?_
          exact ih (x1 + v170) (x2 + (nI 1)) young dropped (upd mem r178.toNatClampNeg (nI 0)) dsk fresh released owed counted inMemory onDisk thn moved h H locs ls (lv_sub hl [2, 1, 0] rfl) hP hD hS
set_option maxHeartbeats 4000000 in
set_option maxRecDepth 100000 in
theorem w_R_reclaim_125 {p : Program} {l : Launch} {e : Env} {s : State} {m : MethodId} {args : Array Value} {below : List Frame} {meth : Method} {c : Code} {D : va_G} {cI cZ : ClassId} {A : Nat → Prop} (h_p0 h_p0_m h_p0_d h_p0_fresh h_p0_young h_p0_dropped h_p0_released h_p0_owed h_p0_counted h_p0_inMemory h_p0_onDisk h_p0_thn : Nat) (F : Nat) (young' : (Nat → Int32)) (dropped' : (Nat → Int32)) (mem' : (Nat → Int32)) (dsk' : (Nat → Int32)) (fresh' : (Nat → Int32)) (released' : (Nat → Int32)) (owed' : (Nat → Int32)) (counted' : (Nat → Int32)) (inMemory' : (Nat → Int32)) (onDisk' : (Nat → Int32)) (thn' : (Nat → Int32)) (moved' : Int32) (r : Int32) (k87 : Int32 → Int32 → (Nat → Int32) → (Nat → Int32) → (Nat → Int32) → (Nat → Int32) → (Nat → Int32) → (Nat → Int32) → (Nat → Int32) → (Nat → Int32) → (Nat → Int32) → (Nat → Int32) → (Nat → Int32) → Int32 → Option (Int32 × (Nat → Int32) × (Nat → Int32) × (Nat → Int32) × (Nat → Int32) × (Nat → Int32) × (Nat → Int32) × (Nat → Int32) × (Nat → Int32) × (Nat → Int32) × (Nat → Int32) × (Nat → Int32) × Int32)) (cx : cx_ok p s m args meth c b_R_reclaim 4 o_R_reclaim "OrderedVolumeModel" (some .int) D cI cZ A) (h87 : (∀ (x1 : Int32) (x2 : Int32) (young : (Nat → Int32)) (dropped : (Nat → Int32)) (mem : (Nat → Int32)) (dsk : (Nat → Int32)) (fresh : (Nat → Int32)) (released : (Nat → Int32)) (owed : (Nat → Int32)) (counted : (Nat → Int32)) (inMemory : (Nat → Int32)) (onDisk : (Nat → Int32)) (thn : (Nat → Int32)) (moved : Int32), k87 x1 x2 young dropped mem dsk fresh released owed counted inMemory onDisk thn moved = some (r, young', dropped', mem', dsk', fresh', released', owed', counted', inMemory', onDisk', thn', moved') → wk_G p l e rm_R_reclaim s m args below meth c (sc_Qi below args s D cI cZ A (w_R cI cZ h_p0 h_p0_m h_p0_d h_p0_fresh h_p0_young h_p0_dropped h_p0_released h_p0_owed h_p0_counted h_p0_inMemory h_p0_onDisk h_p0_thn (mem') (dsk') (fresh') (young') (dropped') (released') (owed') (counted') (inMemory') (onDisk') (thn') (moved')) r) D A 4 87 [] [(0, .ref h_p0), (1, .int x1), (2, .int x2)] (w_R cI cZ h_p0 h_p0_m h_p0_d h_p0_fresh h_p0_young h_p0_dropped h_p0_released h_p0_owed h_p0_counted h_p0_inMemory h_p0_onDisk h_p0_thn mem dsk fresh young dropped released owed counted inMemory onDisk thn moved))) : ∀ (x1 : Int32) (x2 : Int32) (t1 : Int32) (t2 : Int32) (young : (Nat → Int32)) (dropped : (Nat → Int32)) (mem : (Nat → Int32)) (dsk : (Nat → Int32)) (fresh : (Nat → Int32)) (released : (Nat → Int32)) (owed : (Nat → Int32)) (counted : (Nat → Int32)) (inMemory : (Nat → Int32)) (onDisk : (Nat → Int32)) (thn : (Nat → Int32)) (moved : Int32), s_R_reclaim_125 F k87 x1 x2 t1 t2 young dropped mem dsk fresh released owed counted inMemory onDisk thn moved = some (r, young', dropped', mem', dsk', fresh', released', owed', counted', inMemory', onDisk', thn', moved') → wk_G p l e rm_R_reclaim s m args below meth c (sc_Qi below args s D cI cZ A (w_R cI cZ h_p0 h_p0_m h_p0_d h_p0_fresh h_p0_young h_p0_dropped h_p0_released h_p0_owed h_p0_counted h_p0_inMemory h_p0_onDisk h_p0_thn (mem') (dsk') (fresh') (young') (dropped') (released') (owed') (counted') (inMemory') (onDisk') (thn') (moved')) r) D A 4 125 [.int t2, .int t1, .ref h_p0_m] [(0, .ref h_p0), (1, .int x1), (2, .int x2)] (w_R cI cZ h_p0 h_p0_m h_p0_d h_p0_fresh h_p0_young h_p0_dropped h_p0_released h_p0_owed h_p0_counted h_p0_inMemory h_p0_onDisk h_p0_thn mem dsk fresh young dropped released owed counted inMemory onDisk thn moved) := by
  obtain ⟨cf, hr, hlk, hK, hN, hA⟩ := cx
  have hx := cf.1
  have hb := cf.2.1
  have hown := cf.2.2.2.1
  have ht : ∀ w ∈ wA, w.before args s = true := fun w h => cf.2.2.2.2 w (List.mem_cons_of_mem _ h)
  intro x1 x2 t1 t2 young dropped mem dsk fresh released owed counted inMemory onDisk thn moved h H locs ls hl hP hD hS
  unfold s_R_reclaim_125 at h
  obtain ⟨hin, h⟩ := ga_some h
  refine va_iast hx hb hK hP hD hS 1 0 rfl rfl hin d_R_reclaim_125 (fun H locs hP hD hS => ?_)
  have hP : va_P D clA (w_R cI cZ h_p0 h_p0_m h_p0_d h_p0_fresh h_p0_young h_p0_dropped h_p0_released h_p0_owed h_p0_counted h_p0_inMemory h_p0_onDisk h_p0_thn (upd mem t1.toNatClampNeg t2) dsk fresh young dropped released owed counted inMemory onDisk thn moved) H := hP
  have hD : va_D A (w_R cI cZ h_p0 h_p0_m h_p0_d h_p0_fresh h_p0_young h_p0_dropped h_p0_released h_p0_owed h_p0_counted h_p0_inMemory h_p0_onDisk h_p0_thn (upd mem t1.toNatClampNeg t2) dsk fresh young dropped released owed counted inMemory onDisk thn moved) := hD
  refine lv_iinc (k := 2) (v := (x2 + (nI 1))) (lv' := [(2, .int (x2 + (nI 1))), (0, .ref h_p0), (1, .int x1)]) hx hb d_R_reclaim_126 hl rfl rfl (by decide) rfl (fun ls hl => ?_)
  refine lv_goto hx hb d_R_reclaim_129 rfl ?_
  exact h87 x1 (x2 + (nI 1)) young dropped (upd mem t1.toNatClampNeg t2) dsk fresh released owed counted inMemory onDisk thn moved h H locs ls (lv_sub hl [1, 2, 0] rfl) hP hD hS
set_option maxHeartbeats 4000000 in
set_option maxRecDepth 100000 in
theorem w_R_reclaim_87 {p : Program} {l : Launch} {e : Env} {s : State} {m : MethodId} {args : Array Value} {below : List Frame} {meth : Method} {c : Code} {D : va_G} {cI cZ : ClassId} {A : Nat → Prop} (h_p0 h_p0_m h_p0_d h_p0_fresh h_p0_young h_p0_dropped h_p0_released h_p0_owed h_p0_counted h_p0_inMemory h_p0_onDisk h_p0_thn : Nat) (F : Nat) (young' : (Nat → Int32)) (dropped' : (Nat → Int32)) (mem' : (Nat → Int32)) (dsk' : (Nat → Int32)) (fresh' : (Nat → Int32)) (released' : (Nat → Int32)) (owed' : (Nat → Int32)) (counted' : (Nat → Int32)) (inMemory' : (Nat → Int32)) (onDisk' : (Nat → Int32)) (thn' : (Nat → Int32)) (moved' : Int32) (r : Int32) (cx : cx_ok p s m args meth c b_R_reclaim 4 o_R_reclaim "OrderedVolumeModel" (some .int) D cI cZ A) : ∀ (n : Nat) (x1 : Int32) (x2 : Int32) (young : (Nat → Int32)) (dropped : (Nat → Int32)) (mem : (Nat → Int32)) (dsk : (Nat → Int32)) (fresh : (Nat → Int32)) (released : (Nat → Int32)) (owed : (Nat → Int32)) (counted : (Nat → Int32)) (inMemory : (Nat → Int32)) (onDisk : (Nat → Int32)) (thn : (Nat → Int32)) (moved : Int32), s_R_reclaim_87 F n x1 x2 young dropped mem dsk fresh released owed counted inMemory onDisk thn moved = some (r, young', dropped', mem', dsk', fresh', released', owed', counted', inMemory', onDisk', thn', moved') → wk_G p l e rm_R_reclaim s m args below meth c (sc_Qi below args s D cI cZ A (w_R cI cZ h_p0 h_p0_m h_p0_d h_p0_fresh h_p0_young h_p0_dropped h_p0_released h_p0_owed h_p0_counted h_p0_inMemory h_p0_onDisk h_p0_thn (mem') (dsk') (fresh') (young') (dropped') (released') (owed') (counted') (inMemory') (onDisk') (thn') (moved')) r) D A 4 87 [] [(0, .ref h_p0), (1, .int x1), (2, .int x2)] (w_R cI cZ h_p0 h_p0_m h_p0_d h_p0_fresh h_p0_young h_p0_dropped h_p0_released h_p0_owed h_p0_counted h_p0_inMemory h_p0_onDisk h_p0_thn mem dsk fresh young dropped released owed counted inMemory onDisk thn moved) := by
  obtain ⟨cf, hr, hlk, hK, hN, hA⟩ := cx
  have hx := cf.1
  have hb := cf.2.1
  have hown := cf.2.2.2.1
  have ht : ∀ w ∈ wA, w.before args s = true := fun w h => cf.2.2.2.2 w (List.mem_cons_of_mem _ h)
  intro n
  induction n with
  | zero => intro x1 x2 young dropped mem dsk fresh released owed counted inMemory onDisk thn moved h; cases (show (none : Option (Int32 × (Nat → Int32) × (Nat → Int32) × (Nat → Int32) × (Nat → Int32) × (Nat → Int32) × (Nat → Int32) × (Nat → Int32) × (Nat → Int32) × (Nat → Int32) × (Nat → Int32) × (Nat → Int32) × Int32)) = some _ from h)
  | succ n ih =>
    intro x1 x2 young dropped mem dsk fresh released owed counted inMemory onDisk thn moved h H locs ls hl hP hD hS
    unfold s_R_reclaim_87 at h
    refine lv_iload_n hx hb d_R_reclaim_87 rfl (lv_at hl 2 rfl) ?_
    refine lv_bipush (v := (nI 18)) hx hb d_R_reclaim_88 (by decide) ?_
    refine lv_icmp_ge hx hb d_R_reclaim_90 rfl (fun hc => ?_) (fun hc => ?_)
    · rw [if_pos hc] at h
      refine lv_iconst (v := (nI 0)) hx hb d_R_reclaim_132 (by decide) ?_
      refine lv_istore_n (lv' := [(2, .int (nI 0)), (0, .ref h_p0), (1, .int x1)]) hx hb d_R_reclaim_133 rfl hl (by decide) rfl (fun ls hl => ?_)
      exact w_R_reclaim_134 h_p0 h_p0_m h_p0_d h_p0_fresh h_p0_young h_p0_dropped h_p0_released h_p0_owed h_p0_counted h_p0_inMemory h_p0_onDisk h_p0_thn F young' dropped' mem' dsk' fresh' released' owed' counted' inMemory' onDisk' thn' moved' r ⟨cf, hr, hlk, hK, hN, hA⟩ F x1 (nI 0) young dropped mem dsk fresh released owed counted inMemory onDisk thn moved h H locs ls (lv_sub hl [1, 2, 0] rfl) hP hD hS
    · rw [if_neg hc] at h
      refine lv_aload_n hx hb d_R_reclaim_93 rfl (lv_at hl 0 rfl) ?_
      refine va_get (D := D) (ci := 2) (v := .ref h_p0_m) (C := R_R) (T := F_R) (N := 12) hx hb ht in_R hown hK hP 0 rfl rfl 0 (by decide) (ht _ f_R_7) (fun _ h9 => h9) rfl d_R_reclaim_94 ?_
      refine lv_iload_n hx hb d_R_reclaim_97 rfl (lv_at hl 2 rfl) ?_
      refine lv_iconst (v := (nI 1)) hx hb d_R_reclaim_98 (by decide) ?_
      obtain ⟨r99, h99, h⟩ := bd_some h
      refine wk_Si (As := [.int x2, .int (nI 1)]) (rest := [.ref h_p0_m]) (wc := []) (w1 := []) (wr := [(h_p0, .inr (2, [.ref h_p0_m, .ref h_p0_d, .ref h_p0_fresh, .ref h_p0_young, .ref h_p0_dropped, .ref h_p0_released, .ref h_p0_owed, .ref h_p0_counted, .ref h_p0_inMemory, .ref h_p0_onDisk, .ref h_p0_thn, .int moved])), (h_p0_m, .inl (cI, 1080, .inl mem)), (h_p0_d, .inl (cI, 1080, .inl dsk)), (h_p0_fresh, .inl (cZ, 36, .inl fresh)), (h_p0_young, .inl (cZ, 288, .inl young)), (h_p0_dropped, .inl (cI, 36, .inl dropped)), (h_p0_released, .inl (cZ, 18, .inl released)), (h_p0_owed, .inl (cI, 18, .inl owed)), (h_p0_counted, .inl (cI, 18, .inl counted)), (h_p0_inMemory, .inl (cZ, 18, .inl inMemory)), (h_p0_onDisk, .inl (cZ, 18, .inl onDisk)), (h_p0_thn, .inl (cZ, 18, .inl thn))]) (wz := (w_R cI cZ h_p0 h_p0_m h_p0_d h_p0_fresh h_p0_young h_p0_dropped h_p0_released h_p0_owed h_p0_counted h_p0_inMemory h_p0_onDisk h_p0_thn mem dsk fresh young dropped released owed counted inMemory onDisk thn moved)) cf hK hN hA (c_R_at l D cI cZ 0 x2 (nI 1) r99 h99) k_R_44 ⟨rfl, rfl, by decide, by decide⟩ hl hP hD hS [] [0, 1, 2, 3, 4, 5, 6, 7, 8, 9, 10, 11] [0, 1, 2, 3, 4, 5, 6, 7, 8, 9, 10, 11] rfl rfl rfl (by decide) rfl rfl rfl rfl rfl (Nat.le_of_ble_eq_true rfl) rfl d_R_reclaim_99 (fun H locs hP hD hS => ?_)
      refine lv_aload_n hx hb d_R_reclaim_102 rfl (lv_at hl 0 rfl) ?_
      refine va_get (D := D) (ci := 2) (v := .ref h_p0_inMemory) (C := R_R) (T := F_R) (N := 12) hx hb ht in_R hown hK hP 0 rfl rfl 8 (by decide) (ht _ f_R_35) (fun _ h9 => h9) rfl d_R_reclaim_103 ?_
      refine lv_iload_n hx hb d_R_reclaim_106 rfl (lv_at hl 2 rfl) ?_
      obtain ⟨hin, h⟩ := gr_some h
      refine va_zald hx hb hK hP 9 1 rfl rfl hin d_R_reclaim_107 ?_
      generalize inMemory x2.toNatClampNeg = v107 at h ⊢
      refine lv_if_eq hx hb d_R_reclaim_108 rfl (fun hc => ?_) (fun hc => ?_)
      · rw [if_pos hc] at h
        refine lv_iconst (v := (nI 0)) hx hb d_R_reclaim_124 (by decide) ?_
        exact w_R_reclaim_125 h_p0 h_p0_m h_p0_d h_p0_fresh h_p0_young h_p0_dropped h_p0_released h_p0_owed h_p0_counted h_p0_inMemory h_p0_onDisk h_p0_thn F young' dropped' mem' dsk' fresh' released' owed' counted' inMemory' onDisk' thn' moved' r _ ⟨cf, hr, hlk, hK, hN, hA⟩ ih x1 x2 r99 (nI 0) young dropped mem dsk fresh released owed counted inMemory onDisk thn moved h H locs ls (lv_sub hl [0, 1, 2] rfl) hP hD hS
      · rw [if_neg hc] at h
        refine lv_aload_n hx hb d_R_reclaim_111 rfl (lv_at hl 0 rfl) ?_
        refine lv_iconst (v := (nI 0)) hx hb d_R_reclaim_112 (by decide) ?_
        refine lv_aload_n hx hb d_R_reclaim_113 rfl (lv_at hl 0 rfl) ?_
        refine va_get (D := D) (ci := 2) (v := .ref h_p0_inMemory) (C := R_R) (T := F_R) (N := 12) hx hb ht in_R hown hK hP 0 rfl rfl 8 (by decide) (ht _ f_R_35) (fun _ h9 => h9) rfl d_R_reclaim_114 ?_
        refine lv_iload_n hx hb d_R_reclaim_117 rfl (lv_at hl 2 rfl) ?_
        obtain ⟨r118, h118, h⟩ := bd_some h
        refine wk_Vi (As := [.int (nI 0), .ref h_p0_inMemory, .int x2]) (rest := [.int r99, .ref h_p0_m]) (wc := (w_R cI cZ h_p0 h_p0_m h_p0_d h_p0_fresh h_p0_young h_p0_dropped h_p0_released h_p0_owed h_p0_counted h_p0_inMemory h_p0_onDisk h_p0_thn mem dsk fresh young dropped released owed counted inMemory onDisk thn moved)) (w1 := (w_R cI cZ h_p0 h_p0_m h_p0_d h_p0_fresh h_p0_young h_p0_dropped h_p0_released h_p0_owed h_p0_counted h_p0_inMemory h_p0_onDisk h_p0_thn mem dsk fresh young dropped released owed counted inMemory onDisk thn moved)) (wr := []) (wz := (w_R cI cZ h_p0 h_p0_m h_p0_d h_p0_fresh h_p0_young h_p0_dropped h_p0_released h_p0_owed h_p0_counted h_p0_inMemory h_p0_onDisk h_p0_thn mem dsk fresh young dropped released owed counted inMemory onDisk thn moved)) cf hK hN hA (c_R_entriesFor_inMemory l D cI cZ h_p0 h_p0_m h_p0_d h_p0_fresh h_p0_young h_p0_dropped h_p0_released h_p0_owed h_p0_counted h_p0_inMemory h_p0_onDisk h_p0_thn F mem dsk fresh young dropped released owed counted inMemory onDisk thn moved (nI 0) x2 r118 h118) k_R_169 ⟨rfl, rfl, by decide, by decide⟩ 2 rfl rfl rfl hl hP hD hS [0, 1, 2, 3, 4, 5, 6, 7, 8, 9, 10, 11] [] [0, 1, 2, 3, 4, 5, 6, 7, 8, 9, 10, 11] rfl rfl rfl (by decide) rfl rfl rfl rfl rfl (Nat.le_of_ble_eq_true rfl) rfl d_R_reclaim_118 (fun H locs hP hD hS => ?_)
        refine lv_goto hx hb d_R_reclaim_121 rfl ?_
        exact w_R_reclaim_125 h_p0 h_p0_m h_p0_d h_p0_fresh h_p0_young h_p0_dropped h_p0_released h_p0_owed h_p0_counted h_p0_inMemory h_p0_onDisk h_p0_thn F young' dropped' mem' dsk' fresh' released' owed' counted' inMemory' onDisk' thn' moved' r _ ⟨cf, hr, hlk, hK, hN, hA⟩ ih x1 x2 r99 r118 young dropped mem dsk fresh released owed counted inMemory onDisk thn moved h H locs ls (lv_sub hl [0, 1, 2] rfl) hP hD hS
set_option maxHeartbeats 4000000 in
set_option maxRecDepth 100000 in
theorem w_R_reclaim_35 {p : Program} {l : Launch} {e : Env} {s : State} {m : MethodId} {args : Array Value} {below : List Frame} {meth : Method} {c : Code} {D : va_G} {cI cZ : ClassId} {A : Nat → Prop} (h_p0 h_p0_m h_p0_d h_p0_fresh h_p0_young h_p0_dropped h_p0_released h_p0_owed h_p0_counted h_p0_inMemory h_p0_onDisk h_p0_thn : Nat) (F : Nat) (young' : (Nat → Int32)) (dropped' : (Nat → Int32)) (mem' : (Nat → Int32)) (dsk' : (Nat → Int32)) (fresh' : (Nat → Int32)) (released' : (Nat → Int32)) (owed' : (Nat → Int32)) (counted' : (Nat → Int32)) (inMemory' : (Nat → Int32)) (onDisk' : (Nat → Int32)) (thn' : (Nat → Int32)) (moved' : Int32) (r : Int32) (k18 : Int32 → Int32 → (Nat → Int32) → (Nat → Int32) → (Nat → Int32) → (Nat → Int32) → (Nat → Int32) → (Nat → Int32) → (Nat → Int32) → (Nat → Int32) → (Nat → Int32) → (Nat → Int32) → (Nat → Int32) → Int32 → Option (Int32 × (Nat → Int32) × (Nat → Int32) × (Nat → Int32) × (Nat → Int32) × (Nat → Int32) × (Nat → Int32) × (Nat → Int32) × (Nat → Int32) × (Nat → Int32) × (Nat → Int32) × (Nat → Int32) × Int32)) (cx : cx_ok p s m args meth c b_R_reclaim 4 o_R_reclaim "OrderedVolumeModel" (some .int) D cI cZ A) (h18 : (∀ (x1 : Int32) (x2 : Int32) (young : (Nat → Int32)) (dropped : (Nat → Int32)) (mem : (Nat → Int32)) (dsk : (Nat → Int32)) (fresh : (Nat → Int32)) (released : (Nat → Int32)) (owed : (Nat → Int32)) (counted : (Nat → Int32)) (inMemory : (Nat → Int32)) (onDisk : (Nat → Int32)) (thn : (Nat → Int32)) (moved : Int32), k18 x1 x2 young dropped mem dsk fresh released owed counted inMemory onDisk thn moved = some (r, young', dropped', mem', dsk', fresh', released', owed', counted', inMemory', onDisk', thn', moved') → wk_G p l e rm_R_reclaim s m args below meth c (sc_Qi below args s D cI cZ A (w_R cI cZ h_p0 h_p0_m h_p0_d h_p0_fresh h_p0_young h_p0_dropped h_p0_released h_p0_owed h_p0_counted h_p0_inMemory h_p0_onDisk h_p0_thn (mem') (dsk') (fresh') (young') (dropped') (released') (owed') (counted') (inMemory') (onDisk') (thn') (moved')) r) D A 4 18 [] [(0, .ref h_p0), (1, .int x1), (2, .int x2)] (w_R cI cZ h_p0 h_p0_m h_p0_d h_p0_fresh h_p0_young h_p0_dropped h_p0_released h_p0_owed h_p0_counted h_p0_inMemory h_p0_onDisk h_p0_thn mem dsk fresh young dropped released owed counted inMemory onDisk thn moved))) : ∀ (n : Nat) (x1 : Int32) (x2 : Int32) (x3 : Int32) (young : (Nat → Int32)) (dropped : (Nat → Int32)) (mem : (Nat → Int32)) (dsk : (Nat → Int32)) (fresh : (Nat → Int32)) (released : (Nat → Int32)) (owed : (Nat → Int32)) (counted : (Nat → Int32)) (inMemory : (Nat → Int32)) (onDisk : (Nat → Int32)) (thn : (Nat → Int32)) (moved : Int32), s_R_reclaim_35 F k18 n x1 x2 x3 young dropped mem dsk fresh released owed counted inMemory onDisk thn moved = some (r, young', dropped', mem', dsk', fresh', released', owed', counted', inMemory', onDisk', thn', moved') → wk_G p l e rm_R_reclaim s m args below meth c (sc_Qi below args s D cI cZ A (w_R cI cZ h_p0 h_p0_m h_p0_d h_p0_fresh h_p0_young h_p0_dropped h_p0_released h_p0_owed h_p0_counted h_p0_inMemory h_p0_onDisk h_p0_thn (mem') (dsk') (fresh') (young') (dropped') (released') (owed') (counted') (inMemory') (onDisk') (thn') (moved')) r) D A 4 35 [] [(0, .ref h_p0), (1, .int x1), (2, .int x2), (3, .int x3)] (w_R cI cZ h_p0 h_p0_m h_p0_d h_p0_fresh h_p0_young h_p0_dropped h_p0_released h_p0_owed h_p0_counted h_p0_inMemory h_p0_onDisk h_p0_thn mem dsk fresh young dropped released owed counted inMemory onDisk thn moved) := by
  obtain ⟨cf, hr, hlk, hK, hN, hA⟩ := cx
  have hx := cf.1
  have hb := cf.2.1
  have hown := cf.2.2.2.1
  have ht : ∀ w ∈ wA, w.before args s = true := fun w h => cf.2.2.2.2 w (List.mem_cons_of_mem _ h)
  intro n
  induction n with
  | zero => intro x1 x2 x3 young dropped mem dsk fresh released owed counted inMemory onDisk thn moved h; cases (show (none : Option (Int32 × (Nat → Int32) × (Nat → Int32) × (Nat → Int32) × (Nat → Int32) × (Nat → Int32) × (Nat → Int32) × (Nat → Int32) × (Nat → Int32) × (Nat → Int32) × (Nat → Int32) × (Nat → Int32) × Int32)) = some _ from h)
  | succ n ih =>
    intro x1 x2 x3 young dropped mem dsk fresh released owed counted inMemory onDisk thn moved h H locs ls hl hP hD hS
    unfold s_R_reclaim_35 at h
    refine lv_iload_n hx hb d_R_reclaim_35 rfl (lv_at hl 3 rfl) ?_
    refine lv_iconst (v := (nI 5)) hx hb d_R_reclaim_36 (by decide) ?_
    refine lv_icmp_ge hx hb d_R_reclaim_37 rfl (fun hc => ?_) (fun hc => ?_)
    · rw [if_pos hc] at h
      refine lv_iload_n hx hb d_R_reclaim_57 rfl (lv_at hl 1 rfl) ?_
      refine lv_aload_n hx hb d_R_reclaim_58 rfl (lv_at hl 0 rfl) ?_
      refine va_get (D := D) (ci := 2) (v := .ref h_p0_m) (C := R_R) (T := F_R) (N := 12) hx hb ht in_R hown hK hP 0 rfl rfl 0 (by decide) (ht _ f_R_7) (fun _ h9 => h9) rfl d_R_reclaim_59 ?_
      refine lv_iload_n hx hb d_R_reclaim_62 rfl (lv_at hl 2 rfl) ?_
      obtain ⟨r63, h63, h⟩ := bd_some h
      refine wk_Si (As := [.int x2]) (rest := [.ref h_p0_m, .int x1]) (wc := []) (w1 := []) (wr := [(h_p0, .inr (2, [.ref h_p0_m, .ref h_p0_d, .ref h_p0_fresh, .ref h_p0_young, .ref h_p0_dropped, .ref h_p0_released, .ref h_p0_owed, .ref h_p0_counted, .ref h_p0_inMemory, .ref h_p0_onDisk, .ref h_p0_thn, .int moved])), (h_p0_m, .inl (cI, 1080, .inl mem)), (h_p0_d, .inl (cI, 1080, .inl dsk)), (h_p0_fresh, .inl (cZ, 36, .inl fresh)), (h_p0_young, .inl (cZ, 288, .inl young)), (h_p0_dropped, .inl (cI, 36, .inl dropped)), (h_p0_released, .inl (cZ, 18, .inl released)), (h_p0_owed, .inl (cI, 18, .inl owed)), (h_p0_counted, .inl (cI, 18, .inl counted)), (h_p0_inMemory, .inl (cZ, 18, .inl inMemory)), (h_p0_onDisk, .inl (cZ, 18, .inl onDisk)), (h_p0_thn, .inl (cZ, 18, .inl thn))]) (wz := (w_R cI cZ h_p0 h_p0_m h_p0_d h_p0_fresh h_p0_young h_p0_dropped h_p0_released h_p0_owed h_p0_counted h_p0_inMemory h_p0_onDisk h_p0_thn mem dsk fresh young dropped released owed counted inMemory onDisk thn moved)) cf hK hN hA (c_R_markOfInode l D cI cZ 0 x2 r63 h63) k_R_48 ⟨rfl, rfl, by decide, by decide⟩ hl hP hD hS [] [0, 1, 2, 3, 4, 5, 6, 7, 8, 9, 10, 11] [0, 1, 2, 3, 4, 5, 6, 7, 8, 9, 10, 11] rfl rfl rfl (by decide) rfl rfl rfl rfl rfl (Nat.le_of_ble_eq_true rfl) rfl d_R_reclaim_63 (fun H locs hP hD hS => ?_)
      obtain ⟨hin, h⟩ := gr_some h
      refine va_iald hx hb hK hP 1 0 rfl rfl hin d_R_reclaim_66 ?_
      generalize mem r63.toNatClampNeg = v66 at h ⊢
      refine lv_iadd hx hb d_R_reclaim_67 ?_
      refine lv_istore_n (lv' := [(1, .int (x1 + v66)), (0, .ref h_p0), (2, .int x2), (3, .int x3)]) hx hb d_R_reclaim_68 rfl hl (by decide) rfl (fun ls hl => ?_)
      refine lv_aload_n hx hb d_R_reclaim_69 rfl (lv_at hl 1 rfl) ?_
      refine va_get (D := D) (ci := 2) (v := .ref h_p0_m) (C := R_R) (T := F_R) (N := 12) hx hb ht in_R hown hK hP 0 rfl rfl 0 (by decide) (ht _ f_R_7) (fun _ h9 => h9) rfl d_R_reclaim_70 ?_
      refine lv_iload_n hx hb d_R_reclaim_73 rfl (lv_at hl 2 rfl) ?_
      obtain ⟨r74, h74, h⟩ := bd_some h
      refine wk_Si (As := [.int x2]) (rest := [.ref h_p0_m]) (wc := []) (w1 := []) (wr := [(h_p0, .inr (2, [.ref h_p0_m, .ref h_p0_d, .ref h_p0_fresh, .ref h_p0_young, .ref h_p0_dropped, .ref h_p0_released, .ref h_p0_owed, .ref h_p0_counted, .ref h_p0_inMemory, .ref h_p0_onDisk, .ref h_p0_thn, .int moved])), (h_p0_m, .inl (cI, 1080, .inl mem)), (h_p0_d, .inl (cI, 1080, .inl dsk)), (h_p0_fresh, .inl (cZ, 36, .inl fresh)), (h_p0_young, .inl (cZ, 288, .inl young)), (h_p0_dropped, .inl (cI, 36, .inl dropped)), (h_p0_released, .inl (cZ, 18, .inl released)), (h_p0_owed, .inl (cI, 18, .inl owed)), (h_p0_counted, .inl (cI, 18, .inl counted)), (h_p0_inMemory, .inl (cZ, 18, .inl inMemory)), (h_p0_onDisk, .inl (cZ, 18, .inl onDisk)), (h_p0_thn, .inl (cZ, 18, .inl thn))]) (wz := (w_R cI cZ h_p0 h_p0_m h_p0_d h_p0_fresh h_p0_young h_p0_dropped h_p0_released h_p0_owed h_p0_counted h_p0_inMemory h_p0_onDisk h_p0_thn mem dsk fresh young dropped released owed counted inMemory onDisk thn moved)) cf hK hN hA (c_R_markOfInode l D cI cZ 0 x2 r74 h74) k_R_48 ⟨rfl, rfl, by decide, by decide⟩ hl hP hD hS [] [0, 1, 2, 3, 4, 5, 6, 7, 8, 9, 10, 11] [0, 1, 2, 3, 4, 5, 6, 7, 8, 9, 10, 11] rfl rfl rfl (by decide) rfl rfl rfl rfl rfl (Nat.le_of_ble_eq_true rfl) rfl d_R_reclaim_74 (fun H locs hP hD hS => ?_)
      refine lv_iconst (v := (nI 0)) hx hb d_R_reclaim_77 (by decide) ?_
      obtain ⟨hin, h⟩ := ga_some h
      refine va_iast hx hb hK hP hD hS 1 0 rfl rfl hin d_R_reclaim_78 (fun H locs hP hD hS => ?_)
      have hP : va_P D clA (w_R cI cZ h_p0 h_p0_m h_p0_d h_p0_fresh h_p0_young h_p0_dropped h_p0_released h_p0_owed h_p0_counted h_p0_inMemory h_p0_onDisk h_p0_thn (upd mem r74.toNatClampNeg (nI 0)) dsk fresh young dropped released owed counted inMemory onDisk thn moved) H := hP
      have hD : va_D A (w_R cI cZ h_p0 h_p0_m h_p0_d h_p0_fresh h_p0_young h_p0_dropped h_p0_released h_p0_owed h_p0_counted h_p0_inMemory h_p0_onDisk h_p0_thn (upd mem r74.toNatClampNeg (nI 0)) dsk fresh young dropped released owed counted inMemory onDisk thn moved) := hD
      refine lv_iinc (k := 2) (v := (x2 + (nI 1))) (lv' := [(2, .int (x2 + (nI 1))), (1, .int (x1 + v66)), (0, .ref h_p0), (3, .int x3)]) hx hb d_R_reclaim_79 hl rfl rfl (by decide) rfl (fun ls hl => ?_)
      refine lv_goto hx hb d_R_reclaim_82 rfl ?_
      exact h18 (x1 + v66) (x2 + (nI 1)) young dropped (upd mem r74.toNatClampNeg (nI 0)) dsk fresh released owed counted inMemory onDisk thn moved h H locs ls (lv_sub hl [2, 1, 0] rfl) hP hD hS
    · rw [if_neg hc] at h
      refine lv_aload_n hx hb d_R_reclaim_40 rfl (lv_at hl 0 rfl) ?_
      refine va_get (D := D) (ci := 2) (v := .ref h_p0_m) (C := R_R) (T := F_R) (N := 12) hx hb ht in_R hown hK hP 0 rfl rfl 0 (by decide) (ht _ f_R_7) (fun _ h9 => h9) rfl d_R_reclaim_41 ?_
      refine lv_iload_n hx hb d_R_reclaim_44 rfl (lv_at hl 2 rfl) ?_
      refine lv_iload_n hx hb d_R_reclaim_45 rfl (lv_at hl 3 rfl) ?_
      obtain ⟨r46, h46, h⟩ := bd_some h
      refine wk_Si (As := [.int x2, .int x3]) (rest := [.ref h_p0_m]) (wc := []) (w1 := []) (wr := [(h_p0, .inr (2, [.ref h_p0_m, .ref h_p0_d, .ref h_p0_fresh, .ref h_p0_young, .ref h_p0_dropped, .ref h_p0_released, .ref h_p0_owed, .ref h_p0_counted, .ref h_p0_inMemory, .ref h_p0_onDisk, .ref h_p0_thn, .int moved])), (h_p0_m, .inl (cI, 1080, .inl mem)), (h_p0_d, .inl (cI, 1080, .inl dsk)), (h_p0_fresh, .inl (cZ, 36, .inl fresh)), (h_p0_young, .inl (cZ, 288, .inl young)), (h_p0_dropped, .inl (cI, 36, .inl dropped)), (h_p0_released, .inl (cZ, 18, .inl released)), (h_p0_owed, .inl (cI, 18, .inl owed)), (h_p0_counted, .inl (cI, 18, .inl counted)), (h_p0_inMemory, .inl (cZ, 18, .inl inMemory)), (h_p0_onDisk, .inl (cZ, 18, .inl onDisk)), (h_p0_thn, .inl (cZ, 18, .inl thn))]) (wz := (w_R cI cZ h_p0 h_p0_m h_p0_d h_p0_fresh h_p0_young h_p0_dropped h_p0_released h_p0_owed h_p0_counted h_p0_inMemory h_p0_onDisk h_p0_thn mem dsk fresh young dropped released owed counted inMemory onDisk thn moved)) cf hK hN hA (c_R_at l D cI cZ 0 x2 x3 r46 h46) k_R_44 ⟨rfl, rfl, by decide, by decide⟩ hl hP hD hS [] [0, 1, 2, 3, 4, 5, 6, 7, 8, 9, 10, 11] [0, 1, 2, 3, 4, 5, 6, 7, 8, 9, 10, 11] rfl rfl rfl (by decide) rfl rfl rfl rfl rfl (Nat.le_of_ble_eq_true rfl) rfl d_R_reclaim_46 (fun H locs hP hD hS => ?_)
      refine lv_iconst (v := (nI 0)) hx hb d_R_reclaim_49 (by decide) ?_
      obtain ⟨hin, h⟩ := ga_some h
      refine va_iast hx hb hK hP hD hS 1 0 rfl rfl hin d_R_reclaim_50 (fun H locs hP hD hS => ?_)
      have hP : va_P D clA (w_R cI cZ h_p0 h_p0_m h_p0_d h_p0_fresh h_p0_young h_p0_dropped h_p0_released h_p0_owed h_p0_counted h_p0_inMemory h_p0_onDisk h_p0_thn (upd mem r46.toNatClampNeg (nI 0)) dsk fresh young dropped released owed counted inMemory onDisk thn moved) H := hP
      have hD : va_D A (w_R cI cZ h_p0 h_p0_m h_p0_d h_p0_fresh h_p0_young h_p0_dropped h_p0_released h_p0_owed h_p0_counted h_p0_inMemory h_p0_onDisk h_p0_thn (upd mem r46.toNatClampNeg (nI 0)) dsk fresh young dropped released owed counted inMemory onDisk thn moved) := hD
      refine lv_iinc (k := 3) (v := (x3 + (nI 1))) (lv' := [(3, .int (x3 + (nI 1))), (0, .ref h_p0), (1, .int x1), (2, .int x2)]) hx hb d_R_reclaim_51 hl rfl rfl (by decide) rfl (fun ls hl => ?_)
      refine lv_goto hx hb d_R_reclaim_54 rfl ?_
      exact ih x1 x2 (x3 + (nI 1)) young dropped (upd mem r46.toNatClampNeg (nI 0)) dsk fresh released owed counted inMemory onDisk thn moved h H locs ls (lv_sub hl [1, 2, 3, 0] rfl) hP hD hS
set_option maxHeartbeats 4000000 in
set_option maxRecDepth 100000 in
theorem w_R_reclaim_18 {p : Program} {l : Launch} {e : Env} {s : State} {m : MethodId} {args : Array Value} {below : List Frame} {meth : Method} {c : Code} {D : va_G} {cI cZ : ClassId} {A : Nat → Prop} (h_p0 h_p0_m h_p0_d h_p0_fresh h_p0_young h_p0_dropped h_p0_released h_p0_owed h_p0_counted h_p0_inMemory h_p0_onDisk h_p0_thn : Nat) (F : Nat) (young' : (Nat → Int32)) (dropped' : (Nat → Int32)) (mem' : (Nat → Int32)) (dsk' : (Nat → Int32)) (fresh' : (Nat → Int32)) (released' : (Nat → Int32)) (owed' : (Nat → Int32)) (counted' : (Nat → Int32)) (inMemory' : (Nat → Int32)) (onDisk' : (Nat → Int32)) (thn' : (Nat → Int32)) (moved' : Int32) (r : Int32) (cx : cx_ok p s m args meth c b_R_reclaim 4 o_R_reclaim "OrderedVolumeModel" (some .int) D cI cZ A) : ∀ (n : Nat) (x1 : Int32) (x2 : Int32) (young : (Nat → Int32)) (dropped : (Nat → Int32)) (mem : (Nat → Int32)) (dsk : (Nat → Int32)) (fresh : (Nat → Int32)) (released : (Nat → Int32)) (owed : (Nat → Int32)) (counted : (Nat → Int32)) (inMemory : (Nat → Int32)) (onDisk : (Nat → Int32)) (thn : (Nat → Int32)) (moved : Int32), s_R_reclaim_18 F n x1 x2 young dropped mem dsk fresh released owed counted inMemory onDisk thn moved = some (r, young', dropped', mem', dsk', fresh', released', owed', counted', inMemory', onDisk', thn', moved') → wk_G p l e rm_R_reclaim s m args below meth c (sc_Qi below args s D cI cZ A (w_R cI cZ h_p0 h_p0_m h_p0_d h_p0_fresh h_p0_young h_p0_dropped h_p0_released h_p0_owed h_p0_counted h_p0_inMemory h_p0_onDisk h_p0_thn (mem') (dsk') (fresh') (young') (dropped') (released') (owed') (counted') (inMemory') (onDisk') (thn') (moved')) r) D A 4 18 [] [(0, .ref h_p0), (1, .int x1), (2, .int x2)] (w_R cI cZ h_p0 h_p0_m h_p0_d h_p0_fresh h_p0_young h_p0_dropped h_p0_released h_p0_owed h_p0_counted h_p0_inMemory h_p0_onDisk h_p0_thn mem dsk fresh young dropped released owed counted inMemory onDisk thn moved) := by
  obtain ⟨cf, hr, hlk, hK, hN, hA⟩ := cx
  have hx := cf.1
  have hb := cf.2.1
  have hown := cf.2.2.2.1
  have ht : ∀ w ∈ wA, w.before args s = true := fun w h => cf.2.2.2.2 w (List.mem_cons_of_mem _ h)
  intro n
  induction n with
  | zero => intro x1 x2 young dropped mem dsk fresh released owed counted inMemory onDisk thn moved h; cases (show (none : Option (Int32 × (Nat → Int32) × (Nat → Int32) × (Nat → Int32) × (Nat → Int32) × (Nat → Int32) × (Nat → Int32) × (Nat → Int32) × (Nat → Int32) × (Nat → Int32) × (Nat → Int32) × (Nat → Int32) × Int32)) = some _ from h)
  | succ n ih =>
    intro x1 x2 young dropped mem dsk fresh released owed counted inMemory onDisk thn moved h H locs ls hl hP hD hS
    unfold s_R_reclaim_18 at h
    refine lv_iload_n hx hb d_R_reclaim_18 rfl (lv_at hl 2 rfl) ?_
    refine lv_bipush (v := (nI 18)) hx hb d_R_reclaim_19 (by decide) ?_
    refine lv_icmp_ge hx hb d_R_reclaim_21 rfl (fun hc => ?_) (fun hc => ?_)
    · rw [if_pos hc] at h
      refine lv_iconst (v := (nI 1)) hx hb d_R_reclaim_85 (by decide) ?_
      refine lv_istore_n (lv' := [(2, .int (nI 1)), (0, .ref h_p0), (1, .int x1)]) hx hb d_R_reclaim_86 rfl hl (by decide) rfl (fun ls hl => ?_)
      exact w_R_reclaim_87 h_p0 h_p0_m h_p0_d h_p0_fresh h_p0_young h_p0_dropped h_p0_released h_p0_owed h_p0_counted h_p0_inMemory h_p0_onDisk h_p0_thn F young' dropped' mem' dsk' fresh' released' owed' counted' inMemory' onDisk' thn' moved' r ⟨cf, hr, hlk, hK, hN, hA⟩ F x1 (nI 1) young dropped mem dsk fresh released owed counted inMemory onDisk thn moved h H locs ls (lv_sub hl [1, 2, 0] rfl) hP hD hS
    · rw [if_neg hc] at h
      refine lv_aload_n hx hb d_R_reclaim_24 rfl (lv_at hl 0 rfl) ?_
      refine va_get (D := D) (ci := 2) (v := .ref h_p0_inMemory) (C := R_R) (T := F_R) (N := 12) hx hb ht in_R hown hK hP 0 rfl rfl 8 (by decide) (ht _ f_R_35) (fun _ h9 => h9) rfl d_R_reclaim_25 ?_
      refine lv_iload_n hx hb d_R_reclaim_28 rfl (lv_at hl 2 rfl) ?_
      obtain ⟨hin, h⟩ := gr_some h
      refine va_zald hx hb hK hP 9 1 rfl rfl hin d_R_reclaim_29 ?_
      generalize inMemory x2.toNatClampNeg = v29 at h ⊢
      refine lv_if_ne hx hb d_R_reclaim_30 rfl (fun hc => ?_) (fun hc => ?_)
      · rw [if_neg hc] at h
        refine lv_iinc (k := 2) (v := (x2 + (nI 1))) (lv' := [(2, .int (x2 + (nI 1))), (0, .ref h_p0), (1, .int x1)]) hx hb d_R_reclaim_79 hl rfl rfl (by decide) rfl (fun ls hl => ?_)
        refine lv_goto hx hb d_R_reclaim_82 rfl ?_
        exact ih x1 (x2 + (nI 1)) young dropped mem dsk fresh released owed counted inMemory onDisk thn moved h H locs ls (lv_sub hl [1, 2, 0] rfl) hP hD hS
      · rw [if_pos hc] at h
        refine lv_iconst (v := (nI 0)) hx hb d_R_reclaim_33 (by decide) ?_
        refine lv_istore_n (lv' := [(3, .int (nI 0)), (0, .ref h_p0), (1, .int x1), (2, .int x2)]) hx hb d_R_reclaim_34 rfl hl (by decide) rfl (fun ls hl => ?_)
        exact w_R_reclaim_35 h_p0 h_p0_m h_p0_d h_p0_fresh h_p0_young h_p0_dropped h_p0_released h_p0_owed h_p0_counted h_p0_inMemory h_p0_onDisk h_p0_thn F young' dropped' mem' dsk' fresh' released' owed' counted' inMemory' onDisk' thn' moved' r _ ⟨cf, hr, hlk, hK, hN, hA⟩ ih F x1 x2 (nI 0) young dropped mem dsk fresh released owed counted inMemory onDisk thn moved h H locs ls (lv_sub hl [1, 2, 3, 0] rfl) hP hD hS
set_option maxHeartbeats 4000000 in
set_option maxRecDepth 100000 in
theorem c_R_reclaim (l : Launch) (D : va_G) (cI cZ : ClassId) (h_p0 h_p0_m h_p0_d h_p0_fresh h_p0_young h_p0_dropped h_p0_released h_p0_owed h_p0_counted h_p0_inMemory h_p0_onDisk h_p0_thn : Nat) (F : Nat) (mem : (Nat → Int32)) (dsk : (Nat → Int32)) (fresh : (Nat → Int32)) (young : (Nat → Int32)) (dropped : (Nat → Int32)) (released : (Nat → Int32)) (owed : (Nat → Int32)) (counted : (Nat → Int32)) (inMemory : (Nat → Int32)) (onDisk : (Nat → Int32)) (thn : (Nat → Int32)) (moved : Int32) (young' : (Nat → Int32)) (dropped' : (Nat → Int32)) (mem' : (Nat → Int32)) (dsk' : (Nat → Int32)) (fresh' : (Nat → Int32)) (released' : (Nat → Int32)) (owed' : (Nat → Int32)) (counted' : (Nat → Int32)) (inMemory' : (Nat → Int32)) (onDisk' : (Nat → Int32)) (thn' : (Nat → Int32)) (moved' : Int32) (r : Int32) (h : s_R_reclaim F young dropped mem dsk fresh released owed counted inMemory onDisk thn moved = some (r, young', dropped', mem', dsk', fresh', released', owed', counted', inMemory', onDisk', thn', moved')) : sc_i l y_R_reclaim (o_R_reclaim :: wA) rm_R_reclaim D cI cZ [.ref h_p0] (w_R cI cZ h_p0 h_p0_m h_p0_d h_p0_fresh h_p0_young h_p0_dropped h_p0_released h_p0_owed h_p0_counted h_p0_inMemory h_p0_onDisk h_p0_thn mem dsk fresh young dropped released owed counted inMemory onDisk thn moved) (w_R cI cZ h_p0 h_p0_m h_p0_d h_p0_fresh h_p0_young h_p0_dropped h_p0_released h_p0_owed h_p0_counted h_p0_inMemory h_p0_onDisk h_p0_thn (mem') (dsk') (fresh') (young') (dropped') (released') (owed') (counted') (inMemory') (onDisk') (thn') (moved')) r := by
  refine sc_i_of (cc := b_R_reclaim) (maxL := 4) (ret := (some .int)) (by decide) rfl (Nat.le_of_ble_eq_true rfl) ?_
  intro p e s m below meth c A cf hr hlk hK hN hA H locs ls hl hP hD hS
  have hx := cf.1
  have hb := cf.2.1
  have hown := cf.2.2.2.1
  have ht : ∀ w ∈ wA, w.before _ s = true := fun w h => cf.2.2.2.2 w (List.mem_cons_of_mem _ h)
  unfold s_R_reclaim at h
  have hl : lv_has ls 4 [(0, .ref h_p0)] := hl
  refine lv_aload_n hx hb d_R_reclaim_0 rfl (lv_at hl 0 rfl) ?_
  obtain ⟨⟨r1, young_1, dropped_1, mem_1, dsk_1, fresh_1, released_1, owed_1, counted_1, inMemory_1, onDisk_1, thn_1, moved_1⟩, h1, h⟩ := bd_some h
  dsimp only at h
  refine wk_Vi (As := []) (rest := []) (wc := (w_R cI cZ h_p0 h_p0_m h_p0_d h_p0_fresh h_p0_young h_p0_dropped h_p0_released h_p0_owed h_p0_counted h_p0_inMemory h_p0_onDisk h_p0_thn mem dsk fresh young dropped released owed counted inMemory onDisk thn moved)) (w1 := (w_R cI cZ h_p0 h_p0_m h_p0_d h_p0_fresh h_p0_young h_p0_dropped h_p0_released h_p0_owed h_p0_counted h_p0_inMemory h_p0_onDisk h_p0_thn mem_1 dsk_1 fresh_1 young_1 dropped_1 released_1 owed_1 counted_1 inMemory_1 onDisk_1 thn_1 moved_1)) (wr := []) (wz := (w_R cI cZ h_p0 h_p0_m h_p0_d h_p0_fresh h_p0_young h_p0_dropped h_p0_released h_p0_owed h_p0_counted h_p0_inMemory h_p0_onDisk h_p0_thn mem_1 dsk_1 fresh_1 young_1 dropped_1 released_1 owed_1 counted_1 inMemory_1 onDisk_1 thn_1 moved_1)) cf hK hN hA (c_R_sync l D cI cZ h_p0 h_p0_m h_p0_d h_p0_fresh h_p0_young h_p0_dropped h_p0_released h_p0_owed h_p0_counted h_p0_inMemory h_p0_onDisk h_p0_thn F mem dsk fresh young dropped released owed counted inMemory onDisk thn moved young_1 dropped_1 mem_1 dsk_1 fresh_1 released_1 owed_1 counted_1 inMemory_1 onDisk_1 thn_1 moved_1 r1 h1) k_R_123 ⟨rfl, rfl, by decide, by decide⟩ 2 rfl rfl rfl hl hP hD hS [0, 1, 2, 3, 4, 5, 6, 7, 8, 9, 10, 11] [] [0, 1, 2, 3, 4, 5, 6, 7, 8, 9, 10, 11] rfl rfl rfl (by decide) rfl rfl rfl rfl rfl (Nat.le_of_ble_eq_true rfl) rfl d_R_reclaim_1 (fun H locs hP hD hS => ?_)
  refine lv_pop hx hb d_R_reclaim_4 rfl ?_
  refine lv_aload_n hx hb d_R_reclaim_5 rfl (lv_at hl 0 rfl) ?_
  refine lv_iconst (v := (nI 0)) hx hb d_R_reclaim_6 (by decide) ?_
  refine lv_aload_n hx hb d_R_reclaim_7 rfl (lv_at hl 0 rfl) ?_
  refine va_get (D := D) (ci := 2) (v := .ref h_p0_inMemory) (C := R_R) (T := F_R) (N := 12) hx hb ht in_R hown hK hP 0 rfl rfl 8 (by decide) (ht _ f_R_35) (fun _ h9 => h9) rfl d_R_reclaim_8 ?_
  obtain ⟨inMemory_11, h11, h⟩ := bd_some h
  refine wk_Vv (As := [.int (nI 0), .ref h_p0_inMemory]) (rest := []) (wc := (w_R cI cZ h_p0 h_p0_m h_p0_d h_p0_fresh h_p0_young h_p0_dropped h_p0_released h_p0_owed h_p0_counted h_p0_inMemory h_p0_onDisk h_p0_thn mem_1 dsk_1 fresh_1 young_1 dropped_1 released_1 owed_1 counted_1 inMemory_1 onDisk_1 thn_1 moved_1)) (w1 := (w_R cI cZ h_p0 h_p0_m h_p0_d h_p0_fresh h_p0_young h_p0_dropped h_p0_released h_p0_owed h_p0_counted h_p0_inMemory h_p0_onDisk h_p0_thn mem_1 dsk_1 fresh_1 young_1 dropped_1 released_1 owed_1 counted_1 inMemory_11 onDisk_1 thn_1 moved_1)) (wr := []) (wz := (w_R cI cZ h_p0 h_p0_m h_p0_d h_p0_fresh h_p0_young h_p0_dropped h_p0_released h_p0_owed h_p0_counted h_p0_inMemory h_p0_onDisk h_p0_thn mem_1 dsk_1 fresh_1 young_1 dropped_1 released_1 owed_1 counted_1 inMemory_11 onDisk_1 thn_1 moved_1)) cf hK hN hA (c_R_tree_inMemory l D cI cZ h_p0 h_p0_m h_p0_d h_p0_fresh h_p0_young h_p0_dropped h_p0_released h_p0_owed h_p0_counted h_p0_inMemory h_p0_onDisk h_p0_thn F mem_1 dsk_1 fresh_1 young_1 dropped_1 released_1 owed_1 counted_1 inMemory_1 onDisk_1 thn_1 moved_1 inMemory_11 (nI 0) h11) k_R_69 ⟨rfl, rfl, by decide, by decide⟩ 2 rfl rfl rfl hl hP hD hS [0, 1, 2, 3, 4, 5, 6, 7, 8, 9, 10, 11] [] [0, 1, 2, 3, 4, 5, 6, 7, 8, 9, 10, 11] rfl rfl rfl (by decide) rfl rfl rfl rfl rfl (Nat.le_of_ble_eq_true rfl) rfl d_R_reclaim_11 (fun H locs hP hD hS => ?_)
  refine lv_iconst (v := (nI 0)) hx hb d_R_reclaim_14 (by decide) ?_
  refine lv_istore_n (lv' := [(1, .int (nI 0)), (0, .ref h_p0)]) hx hb d_R_reclaim_15 rfl hl (by decide) rfl (fun ls hl => ?_)
  refine lv_iconst (v := (nI 0)) hx hb d_R_reclaim_16 (by decide) ?_
  refine lv_istore_n (lv' := [(2, .int (nI 0)), (1, .int (nI 0)), (0, .ref h_p0)]) hx hb d_R_reclaim_17 rfl hl (by decide) rfl (fun ls hl => ?_)
  exact w_R_reclaim_18 h_p0 h_p0_m h_p0_d h_p0_fresh h_p0_young h_p0_dropped h_p0_released h_p0_owed h_p0_counted h_p0_inMemory h_p0_onDisk h_p0_thn F young' dropped' mem' dsk' fresh' released' owed' counted' inMemory' onDisk' thn' moved' r ⟨cf, hr, hlk, hK, hN, hA⟩ F (nI 0) (nI 0) young_1 dropped_1 mem_1 dsk_1 fresh_1 released_1 owed_1 counted_1 inMemory_11 onDisk_1 thn_1 moved_1 h H locs ls (lv_sub hl [2, 1, 0] rfl) hP hD hS
set_option maxHeartbeats 4000000 in
set_option maxRecDepth 100000 in
theorem w_R_remove_38 {p : Program} {l : Launch} {e : Env} {s : State} {m : MethodId} {args : Array Value} {below : List Frame} {meth : Method} {c : Code} {D : va_G} {cI cZ : ClassId} {A : Nat → Prop} (h_p0 h_p0_m h_p0_d h_p0_fresh h_p0_young h_p0_dropped h_p0_released h_p0_owed h_p0_counted h_p0_inMemory h_p0_onDisk h_p0_thn : Nat) (F : Nat) (dsk : (Nat → Int32)) (fresh : (Nat → Int32)) (onDisk : (Nat → Int32)) (thn : (Nat → Int32)) (moved : Int32) (young' : (Nat → Int32)) (dropped' : (Nat → Int32)) (mem' : (Nat → Int32)) (released' : (Nat → Int32)) (owed' : (Nat → Int32)) (counted' : (Nat → Int32)) (inMemory' : (Nat → Int32)) (r : Int32) (cx : cx_ok p s m args meth c b_R_remove 5 o_R_remove "OrderedVolumeModel" (some .int) D cI cZ A) : ∀ (x1 : Int32) (x2 : Int32) (x3 : Int32) (young : (Nat → Int32)) (dropped : (Nat → Int32)) (mem : (Nat → Int32)) (released : (Nat → Int32)) (owed : (Nat → Int32)) (counted : (Nat → Int32)) (inMemory : (Nat → Int32)), s_R_remove_38 F dsk fresh x1 x2 x3 young dropped mem released owed counted inMemory = some (r, young', dropped', mem', released', owed', counted', inMemory') → wk_G p l e rm_R_remove s m args below meth c (sc_Qi below args s D cI cZ A (w_R cI cZ h_p0 h_p0_m h_p0_d h_p0_fresh h_p0_young h_p0_dropped h_p0_released h_p0_owed h_p0_counted h_p0_inMemory h_p0_onDisk h_p0_thn (mem') dsk fresh (young') (dropped') (released') (owed') (counted') (inMemory') onDisk thn moved) r) D A 5 38 [] [(0, .ref h_p0), (1, .int x1), (2, .int x2), (3, .int x3)] (w_R cI cZ h_p0 h_p0_m h_p0_d h_p0_fresh h_p0_young h_p0_dropped h_p0_released h_p0_owed h_p0_counted h_p0_inMemory h_p0_onDisk h_p0_thn mem dsk fresh young dropped released owed counted inMemory onDisk thn moved) := by
  obtain ⟨cf, hr, hlk, hK, hN, hA⟩ := cx
  have hx := cf.1
  have hb := cf.2.1
  have hown := cf.2.2.2.1
  have ht : ∀ w ∈ wA, w.before args s = true := fun w h => cf.2.2.2.2 w (List.mem_cons_of_mem _ h)
  intro x1 x2 x3 young dropped mem released owed counted inMemory h H locs ls hl hP hD hS
  unfold s_R_remove_38 at h
  refine lv_aload_n hx hb d_R_remove_38 rfl (lv_at hl 0 rfl) ?_
  refine lv_iload_n hx hb d_R_remove_39 rfl (lv_at hl 1 rfl) ?_
  refine lv_iload_n hx hb d_R_remove_40 rfl (lv_at hl 2 rfl) ?_
  obtain ⟨r41, h41, h⟩ := bd_some h
  refine wk_Vi (As := [.int x1, .int x2]) (rest := []) (wc := (w_R cI cZ h_p0 h_p0_m h_p0_d h_p0_fresh h_p0_young h_p0_dropped h_p0_released h_p0_owed h_p0_counted h_p0_inMemory h_p0_onDisk h_p0_thn mem dsk fresh young dropped released owed counted inMemory onDisk thn moved)) (w1 := (w_R cI cZ h_p0 h_p0_m h_p0_d h_p0_fresh h_p0_young h_p0_dropped h_p0_released h_p0_owed h_p0_counted h_p0_inMemory h_p0_onDisk h_p0_thn mem dsk fresh young dropped released owed counted inMemory onDisk thn moved)) (wr := []) (wz := (w_R cI cZ h_p0 h_p0_m h_p0_d h_p0_fresh h_p0_young h_p0_dropped h_p0_released h_p0_owed h_p0_counted h_p0_inMemory h_p0_onDisk h_p0_thn mem dsk fresh young dropped released owed counted inMemory onDisk thn moved)) cf hK hN hA (c_R_find l D cI cZ h_p0 h_p0_m h_p0_d h_p0_fresh h_p0_young h_p0_dropped h_p0_released h_p0_owed h_p0_counted h_p0_inMemory h_p0_onDisk h_p0_thn F mem dsk fresh young dropped released owed counted inMemory onDisk thn moved x1 x2 r41 h41) k_R_113 ⟨rfl, rfl, by decide, by decide⟩ 2 rfl rfl rfl hl hP hD hS [0, 1, 2, 3, 4, 5, 6, 7, 8, 9, 10, 11] [] [0, 1, 2, 3, 4, 5, 6, 7, 8, 9, 10, 11] rfl rfl rfl (by decide) rfl rfl rfl rfl rfl (Nat.le_of_ble_eq_true rfl) rfl d_R_remove_41 (fun H locs hP hD hS => ?_)
  refine lv_istore (lv' := [(4, .int r41), (0, .ref h_p0), (1, .int x1), (2, .int x2), (3, .int x3)]) hx hb d_R_remove_44 hl (by decide) rfl (fun ls hl => ?_)
  refine lv_aload_n hx hb d_R_remove_46 rfl (lv_at hl 1 rfl) ?_
  refine lv_iload_n hx hb d_R_remove_47 rfl (lv_at hl 2 rfl) ?_
  refine lv_iload hx hb d_R_remove_48 (lv_at hl 0 rfl) ?_
  obtain ⟨⟨young_50, dropped_50, mem_50, released_50, owed_50, counted_50⟩, h50, h⟩ := bd_some h
  dsimp only at h
  refine wk_Vv (As := [.int x1, .int r41]) (rest := []) (wc := (w_R cI cZ h_p0 h_p0_m h_p0_d h_p0_fresh h_p0_young h_p0_dropped h_p0_released h_p0_owed h_p0_counted h_p0_inMemory h_p0_onDisk h_p0_thn mem dsk fresh young dropped released owed counted inMemory onDisk thn moved)) (w1 := (w_R cI cZ h_p0 h_p0_m h_p0_d h_p0_fresh h_p0_young h_p0_dropped h_p0_released h_p0_owed h_p0_counted h_p0_inMemory h_p0_onDisk h_p0_thn mem_50 dsk fresh young_50 dropped_50 released_50 owed_50 counted_50 inMemory onDisk thn moved)) (wr := []) (wz := (w_R cI cZ h_p0 h_p0_m h_p0_d h_p0_fresh h_p0_young h_p0_dropped h_p0_released h_p0_owed h_p0_counted h_p0_inMemory h_p0_onDisk h_p0_thn mem_50 dsk fresh young_50 dropped_50 released_50 owed_50 counted_50 inMemory onDisk thn moved)) cf hK hN hA (c_R_leave l D cI cZ h_p0 h_p0_m h_p0_d h_p0_fresh h_p0_young h_p0_dropped h_p0_released h_p0_owed h_p0_counted h_p0_inMemory h_p0_onDisk h_p0_thn F mem dsk fresh young dropped released owed counted inMemory onDisk thn moved young_50 dropped_50 mem_50 released_50 owed_50 counted_50 x1 r41 h50) k_R_137 ⟨rfl, rfl, by decide, by decide⟩ 2 rfl rfl rfl hl hP hD hS [0, 1, 2, 3, 4, 5, 6, 7, 8, 9, 10, 11] [] [0, 1, 2, 3, 4, 5, 6, 7, 8, 9, 10, 11] rfl rfl rfl (by decide) rfl rfl rfl rfl rfl (Nat.le_of_ble_eq_true rfl) rfl d_R_remove_50 (fun H locs hP hD hS => ?_)
  refine lv_iload_n hx hb d_R_remove_53 rfl (lv_at hl 4 rfl) ?_
  cases h
  exact sc_iret cf hr hlk hK hP hD hS d_R_remove_54
set_option maxHeartbeats 4000000 in
set_option maxRecDepth 100000 in
theorem c_R_remove (l : Launch) (D : va_G) (cI cZ : ClassId) (h_p0 h_p0_m h_p0_d h_p0_fresh h_p0_young h_p0_dropped h_p0_released h_p0_owed h_p0_counted h_p0_inMemory h_p0_onDisk h_p0_thn : Nat) (F : Nat) (mem : (Nat → Int32)) (dsk : (Nat → Int32)) (fresh : (Nat → Int32)) (young : (Nat → Int32)) (dropped : (Nat → Int32)) (released : (Nat → Int32)) (owed : (Nat → Int32)) (counted : (Nat → Int32)) (inMemory : (Nat → Int32)) (onDisk : (Nat → Int32)) (thn : (Nat → Int32)) (moved : Int32) (young' : (Nat → Int32)) (dropped' : (Nat → Int32)) (mem' : (Nat → Int32)) (released' : (Nat → Int32)) (owed' : (Nat → Int32)) (counted' : (Nat → Int32)) (inMemory' : (Nat → Int32)) (x1 : Int32) (x2 : Int32) (r : Int32) (h : s_R_remove F dsk fresh x1 x2 young dropped mem released owed counted inMemory = some (r, young', dropped', mem', released', owed', counted', inMemory')) : sc_i l y_R_remove (o_R_remove :: wA) rm_R_remove D cI cZ [.ref h_p0, .int x1, .int x2] (w_R cI cZ h_p0 h_p0_m h_p0_d h_p0_fresh h_p0_young h_p0_dropped h_p0_released h_p0_owed h_p0_counted h_p0_inMemory h_p0_onDisk h_p0_thn mem dsk fresh young dropped released owed counted inMemory onDisk thn moved) (w_R cI cZ h_p0 h_p0_m h_p0_d h_p0_fresh h_p0_young h_p0_dropped h_p0_released h_p0_owed h_p0_counted h_p0_inMemory h_p0_onDisk h_p0_thn (mem') dsk fresh (young') (dropped') (released') (owed') (counted') (inMemory') onDisk thn moved) r := by
  refine sc_i_of (cc := b_R_remove) (maxL := 5) (ret := (some .int)) (by decide) rfl (Nat.le_of_ble_eq_true rfl) ?_
  intro p e s m below meth c A cf hr hlk hK hN hA H locs ls hl hP hD hS
  have hx := cf.1
  have hb := cf.2.1
  have hown := cf.2.2.2.1
  have ht : ∀ w ∈ wA, w.before _ s = true := fun w h => cf.2.2.2.2 w (List.mem_cons_of_mem _ h)
  unfold s_R_remove at h
  have hl : lv_has ls 5 [(0, .ref h_p0), (1, .int x1), (2, .int x2)] := hl
  refine lv_aload_n hx hb d_R_remove_0 rfl (lv_at hl 0 rfl) ?_
  refine lv_iload_n hx hb d_R_remove_1 rfl (lv_at hl 1 rfl) ?_
  refine lv_iload_n hx hb d_R_remove_2 rfl (lv_at hl 2 rfl) ?_
  obtain ⟨⟨r3, inMemory_3⟩, h3, h⟩ := bd_some h
  dsimp only at h
  refine wk_Vi (As := [.int x1, .int x2]) (rest := []) (wc := (w_R cI cZ h_p0 h_p0_m h_p0_d h_p0_fresh h_p0_young h_p0_dropped h_p0_released h_p0_owed h_p0_counted h_p0_inMemory h_p0_onDisk h_p0_thn mem dsk fresh young dropped released owed counted inMemory onDisk thn moved)) (w1 := (w_R cI cZ h_p0 h_p0_m h_p0_d h_p0_fresh h_p0_young h_p0_dropped h_p0_released h_p0_owed h_p0_counted h_p0_inMemory h_p0_onDisk h_p0_thn mem dsk fresh young dropped released owed counted inMemory_3 onDisk thn moved)) (wr := []) (wz := (w_R cI cZ h_p0 h_p0_m h_p0_d h_p0_fresh h_p0_young h_p0_dropped h_p0_released h_p0_owed h_p0_counted h_p0_inMemory h_p0_onDisk h_p0_thn mem dsk fresh young dropped released owed counted inMemory_3 onDisk thn moved)) cf hK hN hA (c_R_lookup l D cI cZ h_p0 h_p0_m h_p0_d h_p0_fresh h_p0_young h_p0_dropped h_p0_released h_p0_owed h_p0_counted h_p0_inMemory h_p0_onDisk h_p0_thn F mem dsk fresh young dropped released owed counted inMemory onDisk thn moved inMemory_3 x1 x2 r3 h3) k_R_134 ⟨rfl, rfl, by decide, by decide⟩ 2 rfl rfl rfl hl hP hD hS [0, 1, 2, 3, 4, 5, 6, 7, 8, 9, 10, 11] [] [0, 1, 2, 3, 4, 5, 6, 7, 8, 9, 10, 11] rfl rfl rfl (by decide) rfl rfl rfl rfl rfl (Nat.le_of_ble_eq_true rfl) rfl d_R_remove_3 (fun H locs hP hD hS => ?_)
  refine lv_istore_n (lv' := [(3, .int r3), (0, .ref h_p0), (1, .int x1), (2, .int x2)]) hx hb d_R_remove_6 rfl hl (by decide) rfl (fun ls hl => ?_)
  refine lv_iload_n hx hb d_R_remove_7 rfl (lv_at hl 0 rfl) ?_
  refine lv_if_ge hx hb d_R_remove_8 rfl (fun hc => ?_) (fun hc => ?_)
  · rw [if_pos hc] at h
    refine lv_aload_n hx hb d_R_remove_13 rfl (lv_at hl 1 rfl) ?_
    refine va_get (D := D) (ci := 2) (v := .ref h_p0_m) (C := R_R) (T := F_R) (N := 12) hx hb ht in_R hown hK hP 0 rfl rfl 0 (by decide) (ht _ f_R_7) (fun _ h9 => h9) rfl d_R_remove_14 ?_
    refine lv_iload_n hx hb d_R_remove_17 rfl (lv_at hl 0 rfl) ?_
    refine lv_iconst (v := (nI 0)) hx hb d_R_remove_18 (by decide) ?_
    obtain ⟨r19, h19, h⟩ := bd_some h
    refine wk_Si (As := [.int r3, .int (nI 0)]) (rest := [.ref h_p0_m]) (wc := []) (w1 := []) (wr := [(h_p0, .inr (2, [.ref h_p0_m, .ref h_p0_d, .ref h_p0_fresh, .ref h_p0_young, .ref h_p0_dropped, .ref h_p0_released, .ref h_p0_owed, .ref h_p0_counted, .ref h_p0_inMemory, .ref h_p0_onDisk, .ref h_p0_thn, .int moved])), (h_p0_m, .inl (cI, 1080, .inl mem)), (h_p0_d, .inl (cI, 1080, .inl dsk)), (h_p0_fresh, .inl (cZ, 36, .inl fresh)), (h_p0_young, .inl (cZ, 288, .inl young)), (h_p0_dropped, .inl (cI, 36, .inl dropped)), (h_p0_released, .inl (cZ, 18, .inl released)), (h_p0_owed, .inl (cI, 18, .inl owed)), (h_p0_counted, .inl (cI, 18, .inl counted)), (h_p0_inMemory, .inl (cZ, 18, .inl inMemory_3)), (h_p0_onDisk, .inl (cZ, 18, .inl onDisk)), (h_p0_thn, .inl (cZ, 18, .inl thn))]) (wz := (w_R cI cZ h_p0 h_p0_m h_p0_d h_p0_fresh h_p0_young h_p0_dropped h_p0_released h_p0_owed h_p0_counted h_p0_inMemory h_p0_onDisk h_p0_thn mem dsk fresh young dropped released owed counted inMemory_3 onDisk thn moved)) cf hK hN hA (c_R_at l D cI cZ 0 r3 (nI 0) r19 h19) k_R_44 ⟨rfl, rfl, by decide, by decide⟩ hl hP hD hS [] [0, 1, 2, 3, 4, 5, 6, 7, 8, 9, 10, 11] [0, 1, 2, 3, 4, 5, 6, 7, 8, 9, 10, 11] rfl rfl rfl (by decide) rfl rfl rfl rfl rfl (Nat.le_of_ble_eq_true rfl) rfl d_R_remove_19 (fun H locs hP hD hS => ?_)
    obtain ⟨hin, h⟩ := gr_some h
    refine va_iald hx hb hK hP 1 0 rfl rfl hin d_R_remove_22 ?_
    generalize mem r19.toNatClampNeg = v22 at h ⊢
    refine lv_iconst (v := (nI 2)) hx hb d_R_remove_23 (by decide) ?_
    refine lv_icmp_ne hx hb d_R_remove_24 rfl (fun hc => ?_) (fun hc => ?_)
    · rw [if_neg hc] at h
      exact w_R_remove_38 h_p0 h_p0_m h_p0_d h_p0_fresh h_p0_young h_p0_dropped h_p0_released h_p0_owed h_p0_counted h_p0_inMemory h_p0_onDisk h_p0_thn F dsk fresh onDisk thn moved young' dropped' mem' released' owed' counted' inMemory' r ⟨cf, hr, hlk, hK, hN, hA⟩ x1 x2 r3 young dropped mem released owed counted inMemory_3 h H locs ls (lv_sub hl [1, 2, 3, 0] rfl) hP hD hS
    · rw [if_pos hc] at h
      refine lv_aload_n hx hb d_R_remove_27 rfl (lv_at hl 1 rfl) ?_
      refine lv_iload_n hx hb d_R_remove_28 rfl (lv_at hl 0 rfl) ?_
      obtain ⟨r29, h29, h⟩ := bd_some h
      refine wk_Vi (As := [.int r3]) (rest := []) (wc := (w_R cI cZ h_p0 h_p0_m h_p0_d h_p0_fresh h_p0_young h_p0_dropped h_p0_released h_p0_owed h_p0_counted h_p0_inMemory h_p0_onDisk h_p0_thn mem dsk fresh young dropped released owed counted inMemory_3 onDisk thn moved)) (w1 := (w_R cI cZ h_p0 h_p0_m h_p0_d h_p0_fresh h_p0_young h_p0_dropped h_p0_released h_p0_owed h_p0_counted h_p0_inMemory h_p0_onDisk h_p0_thn mem dsk fresh young dropped released owed counted inMemory_3 onDisk thn moved)) (wr := []) (wz := (w_R cI cZ h_p0 h_p0_m h_p0_d h_p0_fresh h_p0_young h_p0_dropped h_p0_released h_p0_owed h_p0_counted h_p0_inMemory h_p0_onDisk h_p0_thn mem dsk fresh young dropped released owed counted inMemory_3 onDisk thn moved)) cf hK hN hA (c_R_entries l D cI cZ h_p0 h_p0_m h_p0_d h_p0_fresh h_p0_young h_p0_dropped h_p0_released h_p0_owed h_p0_counted h_p0_inMemory h_p0_onDisk h_p0_thn F mem dsk fresh young dropped released owed counted inMemory_3 onDisk thn moved r3 r29 h29) k_R_116 ⟨rfl, rfl, by decide, by decide⟩ 2 rfl rfl rfl hl hP hD hS [0, 1, 2, 3, 4, 5, 6, 7, 8, 9, 10, 11] [] [0, 1, 2, 3, 4, 5, 6, 7, 8, 9, 10, 11] rfl rfl rfl (by decide) rfl rfl rfl rfl rfl (Nat.le_of_ble_eq_true rfl) rfl d_R_remove_29 (fun H locs hP hD hS => ?_)
      refine lv_if_le hx hb d_R_remove_32 rfl (fun hc => ?_) (fun hc => ?_)
      · rw [if_pos hc] at h
        exact w_R_remove_38 h_p0 h_p0_m h_p0_d h_p0_fresh h_p0_young h_p0_dropped h_p0_released h_p0_owed h_p0_counted h_p0_inMemory h_p0_onDisk h_p0_thn F dsk fresh onDisk thn moved young' dropped' mem' released' owed' counted' inMemory' r ⟨cf, hr, hlk, hK, hN, hA⟩ x1 x2 r3 young dropped mem released owed counted inMemory_3 h H locs ls (lv_sub hl [1, 2, 3, 0] rfl) hP hD hS
      · rw [if_neg hc] at h
        refine lv_bipush (v := (-4)) hx hb d_R_remove_35 (by decide) ?_
        cases h
        exact sc_iret cf hr hlk hK hP hD hS d_R_remove_37
  · rw [if_neg hc] at h
    refine lv_iconst (v := (-1)) hx hb d_R_remove_11 (by decide) ?_
    cases h
    exact sc_iret cf hr hlk hK hP hD hS d_R_remove_12
set_option maxHeartbeats 4000000 in
set_option maxRecDepth 100000 in
theorem w_R_rename_196 {p : Program} {l : Launch} {e : Env} {s : State} {m : MethodId} {args : Array Value} {below : List Frame} {meth : Method} {c : Code} {D : va_G} {cI cZ : ClassId} {A : Nat → Prop} (h_p0 h_p0_m h_p0_d h_p0_fresh h_p0_young h_p0_dropped h_p0_released h_p0_owed h_p0_counted h_p0_inMemory h_p0_onDisk h_p0_thn : Nat) (F : Nat) (young' : (Nat → Int32)) (dropped' : (Nat → Int32)) (mem' : (Nat → Int32)) (dsk' : (Nat → Int32)) (fresh' : (Nat → Int32)) (released' : (Nat → Int32)) (owed' : (Nat → Int32)) (counted' : (Nat → Int32)) (inMemory' : (Nat → Int32)) (onDisk' : (Nat → Int32)) (thn' : (Nat → Int32)) (moved' : Int32) (r : Int32) (cx : cx_ok p s m args meth c b_R_rename 8 o_R_rename "OrderedVolumeModel" (some .int) D cI cZ A) : ∀ (x5 : Int32) (t1 : Int32) (young : (Nat → Int32)) (dropped : (Nat → Int32)) (mem : (Nat → Int32)) (dsk : (Nat → Int32)) (fresh : (Nat → Int32)) (released : (Nat → Int32)) (owed : (Nat → Int32)) (counted : (Nat → Int32)) (inMemory : (Nat → Int32)) (onDisk : (Nat → Int32)) (thn : (Nat → Int32)) (moved : Int32), s_R_rename_196 F x5 t1 young dropped mem dsk fresh released owed counted inMemory onDisk thn moved = some (r, young', dropped', mem', dsk', fresh', released', owed', counted', inMemory', onDisk', thn', moved') → wk_G p l e rm_R_rename s m args below meth c (sc_Qi below args s D cI cZ A (w_R cI cZ h_p0 h_p0_m h_p0_d h_p0_fresh h_p0_young h_p0_dropped h_p0_released h_p0_owed h_p0_counted h_p0_inMemory h_p0_onDisk h_p0_thn (mem') (dsk') (fresh') (young') (dropped') (released') (owed') (counted') (inMemory') (onDisk') (thn') (moved')) r) D A 8 196 [.int t1, .ref h_p0] [(0, .ref h_p0), (5, .int x5)] (w_R cI cZ h_p0 h_p0_m h_p0_d h_p0_fresh h_p0_young h_p0_dropped h_p0_released h_p0_owed h_p0_counted h_p0_inMemory h_p0_onDisk h_p0_thn mem dsk fresh young dropped released owed counted inMemory onDisk thn moved) := by
  obtain ⟨cf, hr, hlk, hK, hN, hA⟩ := cx
  have hx := cf.1
  have hb := cf.2.1
  have hown := cf.2.2.2.1
  have ht : ∀ w ∈ wA, w.before args s = true := fun w h => cf.2.2.2.2 w (List.mem_cons_of_mem _ h)
  intro x5 t1 young dropped mem dsk fresh released owed counted inMemory onDisk thn moved h H locs ls hl hP hD hS
  unfold s_R_rename_196 at h
  obtain ⟨hz, h⟩ := gz_some h
  refine va_put (D := D) (ci := 2) (v := .int t1) (ty := .boolean) (C := R_R) (T := F_R) (N := 12) hx hb ht in_R t_R t_R_ok n_R hown hK hP hD hS 0 rfl rfl 11 (by decide) (ht _ f_R_141) (fun _ h9 => h9) rfl (by decide +kernel) (nz_b hz) (fz_b hz) (Nat.le_of_ble_eq_true rfl) d_R_rename_196 (fun H locs hP hD hS => ?_)
  have hP : va_P D clA (w_R cI cZ h_p0 h_p0_m h_p0_d h_p0_fresh h_p0_young h_p0_dropped h_p0_released h_p0_owed h_p0_counted h_p0_inMemory h_p0_onDisk h_p0_thn mem dsk fresh young dropped released owed counted inMemory onDisk thn t1) H := hP
  have hD : va_D A (w_R cI cZ h_p0 h_p0_m h_p0_d h_p0_fresh h_p0_young h_p0_dropped h_p0_released h_p0_owed h_p0_counted h_p0_inMemory h_p0_onDisk h_p0_thn mem dsk fresh young dropped released owed counted inMemory onDisk thn t1) := hD
  refine lv_iload hx hb d_R_rename_199 (lv_at hl 1 rfl) ?_
  cases h
  exact sc_iret cf hr hlk hK hP hD hS d_R_rename_201
set_option maxHeartbeats 4000000 in
set_option maxRecDepth 100000 in
theorem w_R_rename_191 {p : Program} {l : Launch} {e : Env} {s : State} {m : MethodId} {args : Array Value} {below : List Frame} {meth : Method} {c : Code} {D : va_G} {cI cZ : ClassId} {A : Nat → Prop} (h_p0 h_p0_m h_p0_d h_p0_fresh h_p0_young h_p0_dropped h_p0_released h_p0_owed h_p0_counted h_p0_inMemory h_p0_onDisk h_p0_thn : Nat) (F : Nat) (young' : (Nat → Int32)) (dropped' : (Nat → Int32)) (mem' : (Nat → Int32)) (dsk' : (Nat → Int32)) (fresh' : (Nat → Int32)) (released' : (Nat → Int32)) (owed' : (Nat → Int32)) (counted' : (Nat → Int32)) (inMemory' : (Nat → Int32)) (onDisk' : (Nat → Int32)) (thn' : (Nat → Int32)) (moved' : Int32) (r : Int32) (cx : cx_ok p s m args meth c b_R_rename 8 o_R_rename "OrderedVolumeModel" (some .int) D cI cZ A) : ∀ (x5 : Int32) (young : (Nat → Int32)) (dropped : (Nat → Int32)) (mem : (Nat → Int32)) (dsk : (Nat → Int32)) (fresh : (Nat → Int32)) (released : (Nat → Int32)) (owed : (Nat → Int32)) (counted : (Nat → Int32)) (inMemory : (Nat → Int32)) (onDisk : (Nat → Int32)) (thn : (Nat → Int32)) (moved : Int32), s_R_rename_191 F x5 young dropped mem dsk fresh released owed counted inMemory onDisk thn moved = some (r, young', dropped', mem', dsk', fresh', released', owed', counted', inMemory', onDisk', thn', moved') → wk_G p l e rm_R_rename s m args below meth c (sc_Qi below args s D cI cZ A (w_R cI cZ h_p0 h_p0_m h_p0_d h_p0_fresh h_p0_young h_p0_dropped h_p0_released h_p0_owed h_p0_counted h_p0_inMemory h_p0_onDisk h_p0_thn (mem') (dsk') (fresh') (young') (dropped') (released') (owed') (counted') (inMemory') (onDisk') (thn') (moved')) r) D A 8 191 [.ref h_p0] [(0, .ref h_p0), (5, .int x5)] (w_R cI cZ h_p0 h_p0_m h_p0_d h_p0_fresh h_p0_young h_p0_dropped h_p0_released h_p0_owed h_p0_counted h_p0_inMemory h_p0_onDisk h_p0_thn mem dsk fresh young dropped released owed counted inMemory onDisk thn moved) := by
  obtain ⟨cf, hr, hlk, hK, hN, hA⟩ := cx
  have hx := cf.1
  have hb := cf.2.1
  have hown := cf.2.2.2.1
  have ht : ∀ w ∈ wA, w.before args s = true := fun w h => cf.2.2.2.2 w (List.mem_cons_of_mem _ h)
  intro x5 young dropped mem dsk fresh released owed counted inMemory onDisk thn moved h H locs ls hl hP hD hS
  unfold s_R_rename_191 at h
  refine lv_iconst (v := (nI 1)) hx hb d_R_rename_191 (by decide) ?_
  refine lv_goto hx hb d_R_rename_192 rfl ?_
  exact w_R_rename_196 h_p0 h_p0_m h_p0_d h_p0_fresh h_p0_young h_p0_dropped h_p0_released h_p0_owed h_p0_counted h_p0_inMemory h_p0_onDisk h_p0_thn F young' dropped' mem' dsk' fresh' released' owed' counted' inMemory' onDisk' thn' moved' r ⟨cf, hr, hlk, hK, hN, hA⟩ x5 (nI 1) young dropped mem dsk fresh released owed counted inMemory onDisk thn moved h H locs ls (lv_sub hl [0, 1] rfl) hP hD hS
set_option maxHeartbeats 4000000 in
set_option maxRecDepth 100000 in
theorem w_R_rename_154 {p : Program} {l : Launch} {e : Env} {s : State} {m : MethodId} {args : Array Value} {below : List Frame} {meth : Method} {c : Code} {D : va_G} {cI cZ : ClassId} {A : Nat → Prop} (h_p0 h_p0_m h_p0_d h_p0_fresh h_p0_young h_p0_dropped h_p0_released h_p0_owed h_p0_counted h_p0_inMemory h_p0_onDisk h_p0_thn : Nat) (F : Nat) (young' : (Nat → Int32)) (dropped' : (Nat → Int32)) (mem' : (Nat → Int32)) (dsk' : (Nat → Int32)) (fresh' : (Nat → Int32)) (released' : (Nat → Int32)) (owed' : (Nat → Int32)) (counted' : (Nat → Int32)) (inMemory' : (Nat → Int32)) (onDisk' : (Nat → Int32)) (thn' : (Nat → Int32)) (moved' : Int32) (r : Int32) (cx : cx_ok p s m args meth c b_R_rename 8 o_R_rename "OrderedVolumeModel" (some .int) D cI cZ A) : ∀ (x1 : Int32) (x2 : Int32) (x3 : Int32) (x4 : Int32) (x5 : Int32) (x6 : Int32) (young : (Nat → Int32)) (dropped : (Nat → Int32)) (mem : (Nat → Int32)) (dsk : (Nat → Int32)) (fresh : (Nat → Int32)) (released : (Nat → Int32)) (owed : (Nat → Int32)) (counted : (Nat → Int32)) (inMemory : (Nat → Int32)) (onDisk : (Nat → Int32)) (thn : (Nat → Int32)) (moved : Int32), s_R_rename_154 F x1 x2 x3 x4 x5 x6 young dropped mem dsk fresh released owed counted inMemory onDisk thn moved = some (r, young', dropped', mem', dsk', fresh', released', owed', counted', inMemory', onDisk', thn', moved') → wk_G p l e rm_R_rename s m args below meth c (sc_Qi below args s D cI cZ A (w_R cI cZ h_p0 h_p0_m h_p0_d h_p0_fresh h_p0_young h_p0_dropped h_p0_released h_p0_owed h_p0_counted h_p0_inMemory h_p0_onDisk h_p0_thn (mem') (dsk') (fresh') (young') (dropped') (released') (owed') (counted') (inMemory') (onDisk') (thn') (moved')) r) D A 8 154 [] [(0, .ref h_p0), (1, .int x1), (2, .int x2), (3, .int x3), (4, .int x4), (5, .int x5), (6, .int x6)] (w_R cI cZ h_p0 h_p0_m h_p0_d h_p0_fresh h_p0_young h_p0_dropped h_p0_released h_p0_owed h_p0_counted h_p0_inMemory h_p0_onDisk h_p0_thn mem dsk fresh young dropped released owed counted inMemory onDisk thn moved) := by
  obtain ⟨cf, hr, hlk, hK, hN, hA⟩ := cx
  have hx := cf.1
  have hb := cf.2.1
  have hown := cf.2.2.2.1
  have ht : ∀ w ∈ wA, w.before args s = true := fun w h => cf.2.2.2.2 w (List.mem_cons_of_mem _ h)
  intro x1 x2 x3 x4 x5 x6 young dropped mem dsk fresh released owed counted inMemory onDisk thn moved h H locs ls hl hP hD hS
  unfold s_R_rename_154 at h
  refine lv_aload_n hx hb d_R_rename_154 rfl (lv_at hl 0 rfl) ?_
  refine lv_iload_n hx hb d_R_rename_155 rfl (lv_at hl 3 rfl) ?_
  refine lv_iload hx hb d_R_rename_156 (lv_at hl 4 rfl) ?_
  refine lv_iload hx hb d_R_rename_158 (lv_at hl 5 rfl) ?_
  obtain ⟨⟨young_160, mem_160⟩, h160, h⟩ := bd_some h
  dsimp only at h
  refine wk_Vv (As := [.int x3, .int x4, .int x5]) (rest := []) (wc := (w_R cI cZ h_p0 h_p0_m h_p0_d h_p0_fresh h_p0_young h_p0_dropped h_p0_released h_p0_owed h_p0_counted h_p0_inMemory h_p0_onDisk h_p0_thn mem dsk fresh young dropped released owed counted inMemory onDisk thn moved)) (w1 := (w_R cI cZ h_p0 h_p0_m h_p0_d h_p0_fresh h_p0_young h_p0_dropped h_p0_released h_p0_owed h_p0_counted h_p0_inMemory h_p0_onDisk h_p0_thn mem_160 dsk fresh young_160 dropped released owed counted inMemory onDisk thn moved)) (wr := []) (wz := (w_R cI cZ h_p0 h_p0_m h_p0_d h_p0_fresh h_p0_young h_p0_dropped h_p0_released h_p0_owed h_p0_counted h_p0_inMemory h_p0_onDisk h_p0_thn mem_160 dsk fresh young_160 dropped released owed counted inMemory onDisk thn moved)) cf hK hN hA (c_R_enter l D cI cZ h_p0 h_p0_m h_p0_d h_p0_fresh h_p0_young h_p0_dropped h_p0_released h_p0_owed h_p0_counted h_p0_inMemory h_p0_onDisk h_p0_thn F mem dsk fresh young dropped released owed counted inMemory onDisk thn moved young_160 mem_160 x3 x4 x5 h160) k_R_130 ⟨rfl, rfl, by decide, by decide⟩ 2 rfl rfl rfl hl hP hD hS [0, 1, 2, 3, 4, 5, 6, 7, 8, 9, 10, 11] [] [0, 1, 2, 3, 4, 5, 6, 7, 8, 9, 10, 11] rfl rfl rfl (by decide) rfl rfl rfl rfl rfl (Nat.le_of_ble_eq_true rfl) rfl d_R_rename_160 (fun H locs hP hD hS => ?_)
  refine lv_aload_n hx hb d_R_rename_163 rfl (lv_at hl 0 rfl) ?_
  refine lv_iload_n hx hb d_R_rename_164 rfl (lv_at hl 1 rfl) ?_
  refine lv_iload_n hx hb d_R_rename_165 rfl (lv_at hl 2 rfl) ?_
  obtain ⟨r166, h166, h⟩ := bd_some h
  refine wk_Vi (As := [.int x1, .int x2]) (rest := []) (wc := (w_R cI cZ h_p0 h_p0_m h_p0_d h_p0_fresh h_p0_young h_p0_dropped h_p0_released h_p0_owed h_p0_counted h_p0_inMemory h_p0_onDisk h_p0_thn mem_160 dsk fresh young_160 dropped released owed counted inMemory onDisk thn moved)) (w1 := (w_R cI cZ h_p0 h_p0_m h_p0_d h_p0_fresh h_p0_young h_p0_dropped h_p0_released h_p0_owed h_p0_counted h_p0_inMemory h_p0_onDisk h_p0_thn mem_160 dsk fresh young_160 dropped released owed counted inMemory onDisk thn moved)) (wr := []) (wz := (w_R cI cZ h_p0 h_p0_m h_p0_d h_p0_fresh h_p0_young h_p0_dropped h_p0_released h_p0_owed h_p0_counted h_p0_inMemory h_p0_onDisk h_p0_thn mem_160 dsk fresh young_160 dropped released owed counted inMemory onDisk thn moved)) cf hK hN hA (c_R_find l D cI cZ h_p0 h_p0_m h_p0_d h_p0_fresh h_p0_young h_p0_dropped h_p0_released h_p0_owed h_p0_counted h_p0_inMemory h_p0_onDisk h_p0_thn F mem_160 dsk fresh young_160 dropped released owed counted inMemory onDisk thn moved x1 x2 r166 h166) k_R_113 ⟨rfl, rfl, by decide, by decide⟩ 2 rfl rfl rfl hl hP hD hS [0, 1, 2, 3, 4, 5, 6, 7, 8, 9, 10, 11] [] [0, 1, 2, 3, 4, 5, 6, 7, 8, 9, 10, 11] rfl rfl rfl (by decide) rfl rfl rfl rfl rfl (Nat.le_of_ble_eq_true rfl) rfl d_R_rename_166 (fun H locs hP hD hS => ?_)
  refine lv_istore (lv' := [(7, .int r166), (0, .ref h_p0), (1, .int x1), (2, .int x2), (3, .int x3), (4, .int x4), (5, .int x5), (6, .int x6)]) hx hb d_R_rename_169 hl (by decide) rfl (fun ls hl => ?_)
  refine lv_aload_n hx hb d_R_rename_171 rfl (lv_at hl 1 rfl) ?_
  refine lv_iload_n hx hb d_R_rename_172 rfl (lv_at hl 2 rfl) ?_
  refine lv_iload hx hb d_R_rename_173 (lv_at hl 0 rfl) ?_
  obtain ⟨⟨young_175, dropped_175, mem_175, released_175, owed_175, counted_175⟩, h175, h⟩ := bd_some h
  dsimp only at h
  refine wk_Vv (As := [.int x1, .int r166]) (rest := []) (wc := (w_R cI cZ h_p0 h_p0_m h_p0_d h_p0_fresh h_p0_young h_p0_dropped h_p0_released h_p0_owed h_p0_counted h_p0_inMemory h_p0_onDisk h_p0_thn mem_160 dsk fresh young_160 dropped released owed counted inMemory onDisk thn moved)) (w1 := (w_R cI cZ h_p0 h_p0_m h_p0_d h_p0_fresh h_p0_young h_p0_dropped h_p0_released h_p0_owed h_p0_counted h_p0_inMemory h_p0_onDisk h_p0_thn mem_175 dsk fresh young_175 dropped_175 released_175 owed_175 counted_175 inMemory onDisk thn moved)) (wr := []) (wz := (w_R cI cZ h_p0 h_p0_m h_p0_d h_p0_fresh h_p0_young h_p0_dropped h_p0_released h_p0_owed h_p0_counted h_p0_inMemory h_p0_onDisk h_p0_thn mem_175 dsk fresh young_175 dropped_175 released_175 owed_175 counted_175 inMemory onDisk thn moved)) cf hK hN hA (c_R_leave l D cI cZ h_p0 h_p0_m h_p0_d h_p0_fresh h_p0_young h_p0_dropped h_p0_released h_p0_owed h_p0_counted h_p0_inMemory h_p0_onDisk h_p0_thn F mem_160 dsk fresh young_160 dropped released owed counted inMemory onDisk thn moved young_175 dropped_175 mem_175 released_175 owed_175 counted_175 x1 r166 h175) k_R_137 ⟨rfl, rfl, by decide, by decide⟩ 2 rfl rfl rfl hl hP hD hS [0, 1, 2, 3, 4, 5, 6, 7, 8, 9, 10, 11] [] [0, 1, 2, 3, 4, 5, 6, 7, 8, 9, 10, 11] rfl rfl rfl (by decide) rfl rfl rfl rfl rfl (Nat.le_of_ble_eq_true rfl) rfl d_R_rename_175 (fun H locs hP hD hS => ?_)
  refine lv_aload_n hx hb d_R_rename_178 rfl (lv_at hl 1 rfl) ?_
  refine lv_aload_n hx hb d_R_rename_179 rfl (lv_at hl 1 rfl) ?_
  refine va_get (D := D) (ci := 2) (v := .int moved) (C := R_R) (T := F_R) (N := 12) hx hb ht in_R hown hK hP 0 rfl rfl 11 (by decide) (ht _ f_R_141) (fun _ h9 => h9) rfl d_R_rename_180 ?_
  refine lv_if_ne hx hb d_R_rename_183 rfl (fun hc => ?_) (fun hc => ?_)
  · rw [if_neg hc] at h
    exact w_R_rename_191 h_p0 h_p0_m h_p0_d h_p0_fresh h_p0_young h_p0_dropped h_p0_released h_p0_owed h_p0_counted h_p0_inMemory h_p0_onDisk h_p0_thn F young' dropped' mem' dsk' fresh' released' owed' counted' inMemory' onDisk' thn' moved' r ⟨cf, hr, hlk, hK, hN, hA⟩ x5 young_175 dropped_175 mem_175 dsk fresh released_175 owed_175 counted_175 inMemory onDisk thn moved h H locs ls (lv_sub hl [1, 6] rfl) hP hD hS
  · rw [if_pos hc] at h
    refine lv_iload hx hb d_R_rename_186 (lv_at hl 7 rfl) ?_
    refine lv_if_eq hx hb d_R_rename_188 rfl (fun hc => ?_) (fun hc => ?_)
    · rw [if_pos hc] at h
      refine lv_iconst (v := (nI 0)) hx hb d_R_rename_195 (by decide) ?_
      exact w_R_rename_196 h_p0 h_p0_m h_p0_d h_p0_fresh h_p0_young h_p0_dropped h_p0_released h_p0_owed h_p0_counted h_p0_inMemory h_p0_onDisk h_p0_thn F young' dropped' mem' dsk' fresh' released' owed' counted' inMemory' onDisk' thn' moved' r ⟨cf, hr, hlk, hK, hN, hA⟩ x5 (nI 0) young_175 dropped_175 mem_175 dsk fresh released_175 owed_175 counted_175 inMemory onDisk thn moved h H locs ls (lv_sub hl [1, 6] rfl) hP hD hS
    · rw [if_neg hc] at h
      exact w_R_rename_191 h_p0 h_p0_m h_p0_d h_p0_fresh h_p0_young h_p0_dropped h_p0_released h_p0_owed h_p0_counted h_p0_inMemory h_p0_onDisk h_p0_thn F young' dropped' mem' dsk' fresh' released' owed' counted' inMemory' onDisk' thn' moved' r ⟨cf, hr, hlk, hK, hN, hA⟩ x5 young_175 dropped_175 mem_175 dsk fresh released_175 owed_175 counted_175 inMemory onDisk thn moved h H locs ls (lv_sub hl [1, 6] rfl) hP hD hS
set_option maxHeartbeats 4000000 in
set_option maxRecDepth 100000 in
theorem w_R_rename_128 {p : Program} {l : Launch} {e : Env} {s : State} {m : MethodId} {args : Array Value} {below : List Frame} {meth : Method} {c : Code} {D : va_G} {cI cZ : ClassId} {A : Nat → Prop} (h_p0 h_p0_m h_p0_d h_p0_fresh h_p0_young h_p0_dropped h_p0_released h_p0_owed h_p0_counted h_p0_inMemory h_p0_onDisk h_p0_thn : Nat) (F : Nat) (young' : (Nat → Int32)) (dropped' : (Nat → Int32)) (mem' : (Nat → Int32)) (dsk' : (Nat → Int32)) (fresh' : (Nat → Int32)) (released' : (Nat → Int32)) (owed' : (Nat → Int32)) (counted' : (Nat → Int32)) (inMemory' : (Nat → Int32)) (onDisk' : (Nat → Int32)) (thn' : (Nat → Int32)) (moved' : Int32) (r : Int32) (cx : cx_ok p s m args meth c b_R_rename 8 o_R_rename "OrderedVolumeModel" (some .int) D cI cZ A) : ∀ (x1 : Int32) (x2 : Int32) (x3 : Int32) (x4 : Int32) (x5 : Int32) (x6 : Int32) (young : (Nat → Int32)) (dropped : (Nat → Int32)) (mem : (Nat → Int32)) (dsk : (Nat → Int32)) (fresh : (Nat → Int32)) (released : (Nat → Int32)) (owed : (Nat → Int32)) (counted : (Nat → Int32)) (inMemory : (Nat → Int32)) (onDisk : (Nat → Int32)) (thn : (Nat → Int32)) (moved : Int32), s_R_rename_128 F x1 x2 x3 x4 x5 x6 young dropped mem dsk fresh released owed counted inMemory onDisk thn moved = some (r, young', dropped', mem', dsk', fresh', released', owed', counted', inMemory', onDisk', thn', moved') → wk_G p l e rm_R_rename s m args below meth c (sc_Qi below args s D cI cZ A (w_R cI cZ h_p0 h_p0_m h_p0_d h_p0_fresh h_p0_young h_p0_dropped h_p0_released h_p0_owed h_p0_counted h_p0_inMemory h_p0_onDisk h_p0_thn (mem') (dsk') (fresh') (young') (dropped') (released') (owed') (counted') (inMemory') (onDisk') (thn') (moved')) r) D A 8 128 [] [(0, .ref h_p0), (1, .int x1), (2, .int x2), (3, .int x3), (4, .int x4), (5, .int x5), (6, .int x6)] (w_R cI cZ h_p0 h_p0_m h_p0_d h_p0_fresh h_p0_young h_p0_dropped h_p0_released h_p0_owed h_p0_counted h_p0_inMemory h_p0_onDisk h_p0_thn mem dsk fresh young dropped released owed counted inMemory onDisk thn moved) := by
  obtain ⟨cf, hr, hlk, hK, hN, hA⟩ := cx
  have hx := cf.1
  have hb := cf.2.1
  have hown := cf.2.2.2.1
  have ht : ∀ w ∈ wA, w.before args s = true := fun w h => cf.2.2.2.2 w (List.mem_cons_of_mem _ h)
  intro x1 x2 x3 x4 x5 x6 young dropped mem dsk fresh released owed counted inMemory onDisk thn moved h H locs ls hl hP hD hS
  unfold s_R_rename_128 at h
  refine lv_aload_n hx hb d_R_rename_128 rfl (lv_at hl 0 rfl) ?_
  refine lv_iload_n hx hb d_R_rename_129 rfl (lv_at hl 3 rfl) ?_
  obtain ⟨r130, h130, h⟩ := bd_some h
  refine wk_Vi (As := [.int x3]) (rest := []) (wc := (w_R cI cZ h_p0 h_p0_m h_p0_d h_p0_fresh h_p0_young h_p0_dropped h_p0_released h_p0_owed h_p0_counted h_p0_inMemory h_p0_onDisk h_p0_thn mem dsk fresh young dropped released owed counted inMemory onDisk thn moved)) (w1 := (w_R cI cZ h_p0 h_p0_m h_p0_d h_p0_fresh h_p0_young h_p0_dropped h_p0_released h_p0_owed h_p0_counted h_p0_inMemory h_p0_onDisk h_p0_thn mem dsk fresh young dropped released owed counted inMemory onDisk thn moved)) (wr := []) (wz := (w_R cI cZ h_p0 h_p0_m h_p0_d h_p0_fresh h_p0_young h_p0_dropped h_p0_released h_p0_owed h_p0_counted h_p0_inMemory h_p0_onDisk h_p0_thn mem dsk fresh young dropped released owed counted inMemory onDisk thn moved)) cf hK hN hA (c_R_entries l D cI cZ h_p0 h_p0_m h_p0_d h_p0_fresh h_p0_young h_p0_dropped h_p0_released h_p0_owed h_p0_counted h_p0_inMemory h_p0_onDisk h_p0_thn F mem dsk fresh young dropped released owed counted inMemory onDisk thn moved x3 r130 h130) k_R_116 ⟨rfl, rfl, by decide, by decide⟩ 2 rfl rfl rfl hl hP hD hS [0, 1, 2, 3, 4, 5, 6, 7, 8, 9, 10, 11] [] [0, 1, 2, 3, 4, 5, 6, 7, 8, 9, 10, 11] rfl rfl rfl (by decide) rfl rfl rfl rfl rfl (Nat.le_of_ble_eq_true rfl) rfl d_R_rename_130 (fun H locs hP hD hS => ?_)
  refine lv_bipush (v := (nI 8)) hx hb d_R_rename_133 (by decide) ?_
  refine lv_icmp_ne hx hb d_R_rename_135 rfl (fun hc => ?_) (fun hc => ?_)
  · rw [if_neg hc] at h
    refine lv_aload_n hx hb d_R_rename_141 rfl (lv_at hl 0 rfl) ?_
    refine lv_iload_n hx hb d_R_rename_142 rfl (lv_at hl 3 rfl) ?_
    obtain ⟨r143, h143, h⟩ := bd_some h
    refine wk_Vi (As := [.int x3]) (rest := []) (wc := (w_R cI cZ h_p0 h_p0_m h_p0_d h_p0_fresh h_p0_young h_p0_dropped h_p0_released h_p0_owed h_p0_counted h_p0_inMemory h_p0_onDisk h_p0_thn mem dsk fresh young dropped released owed counted inMemory onDisk thn moved)) (w1 := (w_R cI cZ h_p0 h_p0_m h_p0_d h_p0_fresh h_p0_young h_p0_dropped h_p0_released h_p0_owed h_p0_counted h_p0_inMemory h_p0_onDisk h_p0_thn mem dsk fresh young dropped released owed counted inMemory onDisk thn moved)) (wr := []) (wz := (w_R cI cZ h_p0 h_p0_m h_p0_d h_p0_fresh h_p0_young h_p0_dropped h_p0_released h_p0_owed h_p0_counted h_p0_inMemory h_p0_onDisk h_p0_thn mem dsk fresh young dropped released owed counted inMemory onDisk thn moved)) cf hK hN hA (c_R_place l D cI cZ h_p0 h_p0_m h_p0_d h_p0_fresh h_p0_young h_p0_dropped h_p0_released h_p0_owed h_p0_counted h_p0_inMemory h_p0_onDisk h_p0_thn F mem dsk fresh young dropped released owed counted inMemory onDisk thn moved x3 r143 h143) k_R_72 ⟨rfl, rfl, by decide, by decide⟩ 2 rfl rfl rfl hl hP hD hS [0, 1, 2, 3, 4, 5, 6, 7, 8, 9, 10, 11] [] [0, 1, 2, 3, 4, 5, 6, 7, 8, 9, 10, 11] rfl rfl rfl (by decide) rfl rfl rfl rfl rfl (Nat.le_of_ble_eq_true rfl) rfl d_R_rename_143 (fun H locs hP hD hS => ?_)
    refine lv_if_ge hx hb d_R_rename_146 rfl (fun hc => ?_) (fun hc => ?_)
    · rw [if_pos hc] at h
      exact w_R_rename_154 h_p0 h_p0_m h_p0_d h_p0_fresh h_p0_young h_p0_dropped h_p0_released h_p0_owed h_p0_counted h_p0_inMemory h_p0_onDisk h_p0_thn F young' dropped' mem' dsk' fresh' released' owed' counted' inMemory' onDisk' thn' moved' r ⟨cf, hr, hlk, hK, hN, hA⟩ x1 x2 x3 x4 x5 x6 young dropped mem dsk fresh released owed counted inMemory onDisk thn moved h H locs ls (lv_sub hl [0, 1, 2, 3, 4, 5, 6] rfl) hP hD hS
    · rw [if_neg hc] at h
      refine lv_aload_n hx hb d_R_rename_149 rfl (lv_at hl 0 rfl) ?_
      obtain ⟨⟨r150, young_150, dropped_150, mem_150, dsk_150, fresh_150, released_150, owed_150, counted_150, inMemory_150, onDisk_150, thn_150, moved_150⟩, h150, h⟩ := bd_some h
      dsimp only at h
      refine wk_Vi (As := []) (rest := []) (wc := (w_R cI cZ h_p0 h_p0_m h_p0_d h_p0_fresh h_p0_young h_p0_dropped h_p0_released h_p0_owed h_p0_counted h_p0_inMemory h_p0_onDisk h_p0_thn mem dsk fresh young dropped released owed counted inMemory onDisk thn moved)) (w1 := (w_R cI cZ h_p0 h_p0_m h_p0_d h_p0_fresh h_p0_young h_p0_dropped h_p0_released h_p0_owed h_p0_counted h_p0_inMemory h_p0_onDisk h_p0_thn mem_150 dsk_150 fresh_150 young_150 dropped_150 released_150 owed_150 counted_150 inMemory_150 onDisk_150 thn_150 moved_150)) (wr := []) (wz := (w_R cI cZ h_p0 h_p0_m h_p0_d h_p0_fresh h_p0_young h_p0_dropped h_p0_released h_p0_owed h_p0_counted h_p0_inMemory h_p0_onDisk h_p0_thn mem_150 dsk_150 fresh_150 young_150 dropped_150 released_150 owed_150 counted_150 inMemory_150 onDisk_150 thn_150 moved_150)) cf hK hN hA (c_R_sync l D cI cZ h_p0 h_p0_m h_p0_d h_p0_fresh h_p0_young h_p0_dropped h_p0_released h_p0_owed h_p0_counted h_p0_inMemory h_p0_onDisk h_p0_thn F mem dsk fresh young dropped released owed counted inMemory onDisk thn moved young_150 dropped_150 mem_150 dsk_150 fresh_150 released_150 owed_150 counted_150 inMemory_150 onDisk_150 thn_150 moved_150 r150 h150) k_R_123 ⟨rfl, rfl, by decide, by decide⟩ 2 rfl rfl rfl hl hP hD hS [0, 1, 2, 3, 4, 5, 6, 7, 8, 9, 10, 11] [] [0, 1, 2, 3, 4, 5, 6, 7, 8, 9, 10, 11] rfl rfl rfl (by decide) rfl rfl rfl rfl rfl (Nat.le_of_ble_eq_true rfl) rfl d_R_rename_150 (fun H locs hP hD hS => ?_)
      refine lv_pop hx hb d_R_rename_153 rfl ?_
      exact w_R_rename_154 h_p0 h_p0_m h_p0_d h_p0_fresh h_p0_young h_p0_dropped h_p0_released h_p0_owed h_p0_counted h_p0_inMemory h_p0_onDisk h_p0_thn F young' dropped' mem' dsk' fresh' released' owed' counted' inMemory' onDisk' thn' moved' r ⟨cf, hr, hlk, hK, hN, hA⟩ x1 x2 x3 x4 x5 x6 young_150 dropped_150 mem_150 dsk_150 fresh_150 released_150 owed_150 counted_150 inMemory_150 onDisk_150 thn_150 moved_150 h H locs ls (lv_sub hl [0, 1, 2, 3, 4, 5, 6] rfl) hP hD hS
  · rw [if_pos hc] at h
    refine lv_bipush (v := (-3)) hx hb d_R_rename_138 (by decide) ?_
    cases h
    exact sc_iret cf hr hlk hK hP hD hS d_R_rename_140
set_option maxHeartbeats 4000000 in
set_option maxRecDepth 100000 in
theorem w_R_rename_95 {p : Program} {l : Launch} {e : Env} {s : State} {m : MethodId} {args : Array Value} {below : List Frame} {meth : Method} {c : Code} {D : va_G} {cI cZ : ClassId} {A : Nat → Prop} (h_p0 h_p0_m h_p0_d h_p0_fresh h_p0_young h_p0_dropped h_p0_released h_p0_owed h_p0_counted h_p0_inMemory h_p0_onDisk h_p0_thn : Nat) (F : Nat) (young' : (Nat → Int32)) (dropped' : (Nat → Int32)) (mem' : (Nat → Int32)) (dsk' : (Nat → Int32)) (fresh' : (Nat → Int32)) (released' : (Nat → Int32)) (owed' : (Nat → Int32)) (counted' : (Nat → Int32)) (inMemory' : (Nat → Int32)) (onDisk' : (Nat → Int32)) (thn' : (Nat → Int32)) (moved' : Int32) (r : Int32) (k70 : Int32 → Int32 → Int32 → Int32 → Int32 → Int32 → Int32 → (Nat → Int32) → (Nat → Int32) → (Nat → Int32) → (Nat → Int32) → (Nat → Int32) → (Nat → Int32) → (Nat → Int32) → (Nat → Int32) → (Nat → Int32) → (Nat → Int32) → (Nat → Int32) → Int32 → Option (Int32 × (Nat → Int32) × (Nat → Int32) × (Nat → Int32) × (Nat → Int32) × (Nat → Int32) × (Nat → Int32) × (Nat → Int32) × (Nat → Int32) × (Nat → Int32) × (Nat → Int32) × (Nat → Int32) × Int32)) (cx : cx_ok p s m args meth c b_R_rename 8 o_R_rename "OrderedVolumeModel" (some .int) D cI cZ A) (h70 : (∀ (x1 : Int32) (x2 : Int32) (x3 : Int32) (x4 : Int32) (x5 : Int32) (x6 : Int32) (x7 : Int32) (young : (Nat → Int32)) (dropped : (Nat → Int32)) (mem : (Nat → Int32)) (dsk : (Nat → Int32)) (fresh : (Nat → Int32)) (released : (Nat → Int32)) (owed : (Nat → Int32)) (counted : (Nat → Int32)) (inMemory : (Nat → Int32)) (onDisk : (Nat → Int32)) (thn : (Nat → Int32)) (moved : Int32), k70 x1 x2 x3 x4 x5 x6 x7 young dropped mem dsk fresh released owed counted inMemory onDisk thn moved = some (r, young', dropped', mem', dsk', fresh', released', owed', counted', inMemory', onDisk', thn', moved') → wk_G p l e rm_R_rename s m args below meth c (sc_Qi below args s D cI cZ A (w_R cI cZ h_p0 h_p0_m h_p0_d h_p0_fresh h_p0_young h_p0_dropped h_p0_released h_p0_owed h_p0_counted h_p0_inMemory h_p0_onDisk h_p0_thn (mem') (dsk') (fresh') (young') (dropped') (released') (owed') (counted') (inMemory') (onDisk') (thn') (moved')) r) D A 8 70 [] [(0, .ref h_p0), (1, .int x1), (2, .int x2), (3, .int x3), (4, .int x4), (5, .int x5), (6, .int x6), (7, .int x7)] (w_R cI cZ h_p0 h_p0_m h_p0_d h_p0_fresh h_p0_young h_p0_dropped h_p0_released h_p0_owed h_p0_counted h_p0_inMemory h_p0_onDisk h_p0_thn mem dsk fresh young dropped released owed counted inMemory onDisk thn moved))) : ∀ (x1 : Int32) (x2 : Int32) (x3 : Int32) (x4 : Int32) (x5 : Int32) (x6 : Int32) (x7 : Int32) (t1 : Int32) (t2 : Int32) (young : (Nat → Int32)) (dropped : (Nat → Int32)) (mem : (Nat → Int32)) (dsk : (Nat → Int32)) (fresh : (Nat → Int32)) (released : (Nat → Int32)) (owed : (Nat → Int32)) (counted : (Nat → Int32)) (inMemory : (Nat → Int32)) (onDisk : (Nat → Int32)) (thn : (Nat → Int32)) (moved : Int32), s_R_rename_95 F k70 x1 x2 x3 x4 x5 x6 x7 t1 t2 young dropped mem dsk fresh released owed counted inMemory onDisk thn moved = some (r, young', dropped', mem', dsk', fresh', released', owed', counted', inMemory', onDisk', thn', moved') → wk_G p l e rm_R_rename s m args below meth c (sc_Qi below args s D cI cZ A (w_R cI cZ h_p0 h_p0_m h_p0_d h_p0_fresh h_p0_young h_p0_dropped h_p0_released h_p0_owed h_p0_counted h_p0_inMemory h_p0_onDisk h_p0_thn (mem') (dsk') (fresh') (young') (dropped') (released') (owed') (counted') (inMemory') (onDisk') (thn') (moved')) r) D A 8 95 [.int t2, .int t1, .ref h_p0_thn] [(0, .ref h_p0), (1, .int x1), (2, .int x2), (3, .int x3), (4, .int x4), (5, .int x5), (6, .int x6), (7, .int x7)] (w_R cI cZ h_p0 h_p0_m h_p0_d h_p0_fresh h_p0_young h_p0_dropped h_p0_released h_p0_owed h_p0_counted h_p0_inMemory h_p0_onDisk h_p0_thn mem dsk fresh young dropped released owed counted inMemory onDisk thn moved) := by
  obtain ⟨cf, hr, hlk, hK, hN, hA⟩ := cx
  have hx := cf.1
  have hb := cf.2.1
  have hown := cf.2.2.2.1
  have ht : ∀ w ∈ wA, w.before args s = true := fun w h => cf.2.2.2.2 w (List.mem_cons_of_mem _ h)
  intro x1 x2 x3 x4 x5 x6 x7 t1 t2 young dropped mem dsk fresh released owed counted inMemory onDisk thn moved h H locs ls hl hP hD hS
  unfold s_R_rename_95 at h
  obtain ⟨hin, h⟩ := ga_some h
  refine va_zast hx hb hK hP hD hS 11 1 rfl rfl hin d_R_rename_95 (fun H locs hP hD hS => ?_)
  have hP : va_P D clA (w_R cI cZ h_p0 h_p0_m h_p0_d h_p0_fresh h_p0_young h_p0_dropped h_p0_released h_p0_owed h_p0_counted h_p0_inMemory h_p0_onDisk h_p0_thn mem dsk fresh young dropped released owed counted inMemory onDisk (upd thn t1.toNatClampNeg (vp_nar .boolean t2)) moved) H := hP
  have hD : va_D A (w_R cI cZ h_p0 h_p0_m h_p0_d h_p0_fresh h_p0_young h_p0_dropped h_p0_released h_p0_owed h_p0_counted h_p0_inMemory h_p0_onDisk h_p0_thn mem dsk fresh young dropped released owed counted inMemory onDisk (upd thn t1.toNatClampNeg (vp_nar .boolean t2)) moved) := hD
  refine lv_iinc (k := 7) (v := (x7 + (nI 1))) (lv' := [(7, .int (x7 + (nI 1))), (0, .ref h_p0), (1, .int x1), (2, .int x2), (3, .int x3), (4, .int x4), (5, .int x5), (6, .int x6)]) hx hb d_R_rename_96 hl rfl rfl (by decide) rfl (fun ls hl => ?_)
  refine lv_goto hx hb d_R_rename_99 rfl ?_
  exact h70 x1 x2 x3 x4 x5 x6 (x7 + (nI 1)) young dropped mem dsk fresh released owed counted inMemory onDisk (upd thn t1.toNatClampNeg (vp_nar .boolean t2)) moved h H locs ls (lv_sub hl [1, 2, 3, 4, 5, 6, 7, 0] rfl) hP hD hS
set_option maxHeartbeats 4000000 in
set_option maxRecDepth 100000 in
theorem w_R_rename_70 {p : Program} {l : Launch} {e : Env} {s : State} {m : MethodId} {args : Array Value} {below : List Frame} {meth : Method} {c : Code} {D : va_G} {cI cZ : ClassId} {A : Nat → Prop} (h_p0 h_p0_m h_p0_d h_p0_fresh h_p0_young h_p0_dropped h_p0_released h_p0_owed h_p0_counted h_p0_inMemory h_p0_onDisk h_p0_thn : Nat) (F : Nat) (young' : (Nat → Int32)) (dropped' : (Nat → Int32)) (mem' : (Nat → Int32)) (dsk' : (Nat → Int32)) (fresh' : (Nat → Int32)) (released' : (Nat → Int32)) (owed' : (Nat → Int32)) (counted' : (Nat → Int32)) (inMemory' : (Nat → Int32)) (onDisk' : (Nat → Int32)) (thn' : (Nat → Int32)) (moved' : Int32) (r : Int32) (cx : cx_ok p s m args meth c b_R_rename 8 o_R_rename "OrderedVolumeModel" (some .int) D cI cZ A) : ∀ (n : Nat) (x1 : Int32) (x2 : Int32) (x3 : Int32) (x4 : Int32) (x5 : Int32) (x6 : Int32) (x7 : Int32) (young : (Nat → Int32)) (dropped : (Nat → Int32)) (mem : (Nat → Int32)) (dsk : (Nat → Int32)) (fresh : (Nat → Int32)) (released : (Nat → Int32)) (owed : (Nat → Int32)) (counted : (Nat → Int32)) (inMemory : (Nat → Int32)) (onDisk : (Nat → Int32)) (thn : (Nat → Int32)) (moved : Int32), s_R_rename_70 F n x1 x2 x3 x4 x5 x6 x7 young dropped mem dsk fresh released owed counted inMemory onDisk thn moved = some (r, young', dropped', mem', dsk', fresh', released', owed', counted', inMemory', onDisk', thn', moved') → wk_G p l e rm_R_rename s m args below meth c (sc_Qi below args s D cI cZ A (w_R cI cZ h_p0 h_p0_m h_p0_d h_p0_fresh h_p0_young h_p0_dropped h_p0_released h_p0_owed h_p0_counted h_p0_inMemory h_p0_onDisk h_p0_thn (mem') (dsk') (fresh') (young') (dropped') (released') (owed') (counted') (inMemory') (onDisk') (thn') (moved')) r) D A 8 70 [] [(0, .ref h_p0), (1, .int x1), (2, .int x2), (3, .int x3), (4, .int x4), (5, .int x5), (6, .int x6), (7, .int x7)] (w_R cI cZ h_p0 h_p0_m h_p0_d h_p0_fresh h_p0_young h_p0_dropped h_p0_released h_p0_owed h_p0_counted h_p0_inMemory h_p0_onDisk h_p0_thn mem dsk fresh young dropped released owed counted inMemory onDisk thn moved) := by
  obtain ⟨cf, hr, hlk, hK, hN, hA⟩ := cx
  have hx := cf.1
  have hb := cf.2.1
  have hown := cf.2.2.2.1
  have ht : ∀ w ∈ wA, w.before args s = true := fun w h => cf.2.2.2.2 w (List.mem_cons_of_mem _ h)
  intro n
  induction n with
  | zero => intro x1 x2 x3 x4 x5 x6 x7 young dropped mem dsk fresh released owed counted inMemory onDisk thn moved h; cases (show (none : Option (Int32 × (Nat → Int32) × (Nat → Int32) × (Nat → Int32) × (Nat → Int32) × (Nat → Int32) × (Nat → Int32) × (Nat → Int32) × (Nat → Int32) × (Nat → Int32) × (Nat → Int32) × (Nat → Int32) × Int32)) = some _ from h)
  | succ n ih =>
    intro x1 x2 x3 x4 x5 x6 x7 young dropped mem dsk fresh released owed counted inMemory onDisk thn moved h H locs ls hl hP hD hS
    unfold s_R_rename_70 at h
    refine lv_iload hx hb d_R_rename_70 (lv_at hl 7 rfl) ?_
    refine lv_bipush (v := (nI 18)) hx hb d_R_rename_72 (by decide) ?_
    refine lv_icmp_ge hx hb d_R_rename_74 rfl (fun hc => ?_) (fun hc => ?_)
    · rw [if_pos hc] at h
      refine lv_aload_n hx hb d_R_rename_102 rfl (lv_at hl 0 rfl) ?_
      refine lv_iconst (v := (nI 0)) hx hb d_R_rename_103 (by decide) ?_
      refine lv_aload_n hx hb d_R_rename_104 rfl (lv_at hl 0 rfl) ?_
      refine va_get (D := D) (ci := 2) (v := .ref h_p0_thn) (C := R_R) (T := F_R) (N := 12) hx hb ht in_R hown hK hP 0 rfl rfl 10 (by decide) (ht _ f_R_41) (fun _ h9 => h9) rfl d_R_rename_105 ?_
      obtain ⟨thn_108, h108, h⟩ := bd_some h
      refine wk_Vv (As := [.int (nI 0), .ref h_p0_thn]) (rest := []) (wc := (w_R cI cZ h_p0 h_p0_m h_p0_d h_p0_fresh h_p0_young h_p0_dropped h_p0_released h_p0_owed h_p0_counted h_p0_inMemory h_p0_onDisk h_p0_thn mem dsk fresh young dropped released owed counted inMemory onDisk thn moved)) (w1 := (w_R cI cZ h_p0 h_p0_m h_p0_d h_p0_fresh h_p0_young h_p0_dropped h_p0_released h_p0_owed h_p0_counted h_p0_inMemory h_p0_onDisk h_p0_thn mem dsk fresh young dropped released owed counted inMemory onDisk thn_108 moved)) (wr := []) (wz := (w_R cI cZ h_p0 h_p0_m h_p0_d h_p0_fresh h_p0_young h_p0_dropped h_p0_released h_p0_owed h_p0_counted h_p0_inMemory h_p0_onDisk h_p0_thn mem dsk fresh young dropped released owed counted inMemory onDisk thn_108 moved)) cf hK hN hA (c_R_below_then l D cI cZ h_p0 h_p0_m h_p0_d h_p0_fresh h_p0_young h_p0_dropped h_p0_released h_p0_owed h_p0_counted h_p0_inMemory h_p0_onDisk h_p0_thn F mem dsk fresh young dropped released owed counted inMemory onDisk thn moved thn_108 (nI 0) h108) k_R_58 ⟨rfl, rfl, by decide, by decide⟩ 2 rfl rfl rfl hl hP hD hS [0, 1, 2, 3, 4, 5, 6, 7, 8, 9, 10, 11] [] [0, 1, 2, 3, 4, 5, 6, 7, 8, 9, 10, 11] rfl rfl rfl (by decide) rfl rfl rfl rfl rfl (Nat.le_of_ble_eq_true rfl) rfl d_R_rename_108 (fun H locs hP hD hS => ?_)
      refine lv_iload hx hb d_R_rename_111 (lv_at hl 6 rfl) ?_
      refine lv_if_eq hx hb d_R_rename_113 rfl (fun hc => ?_) (fun hc => ?_)
      · rw [if_pos hc] at h
        exact w_R_rename_128 h_p0 h_p0_m h_p0_d h_p0_fresh h_p0_young h_p0_dropped h_p0_released h_p0_owed h_p0_counted h_p0_inMemory h_p0_onDisk h_p0_thn F young' dropped' mem' dsk' fresh' released' owed' counted' inMemory' onDisk' thn' moved' r ⟨cf, hr, hlk, hK, hN, hA⟩ x1 x2 x3 x4 x5 x6 young dropped mem dsk fresh released owed counted inMemory onDisk thn_108 moved h H locs ls (lv_sub hl [0, 1, 2, 3, 4, 5, 6] rfl) hP hD hS
      · rw [if_neg hc] at h
        refine lv_aload_n hx hb d_R_rename_116 rfl (lv_at hl 0 rfl) ?_
        refine va_get (D := D) (ci := 2) (v := .ref h_p0_thn) (C := R_R) (T := F_R) (N := 12) hx hb ht in_R hown hK hP 0 rfl rfl 10 (by decide) (ht _ f_R_41) (fun _ h9 => h9) rfl d_R_rename_117 ?_
        refine lv_iload_n hx hb d_R_rename_120 rfl (lv_at hl 3 rfl) ?_
        obtain ⟨hin, h⟩ := gr_some h
        refine va_zald hx hb hK hP 11 1 rfl rfl hin d_R_rename_121 ?_
        generalize thn_108 x3.toNatClampNeg = v121 at h ⊢
        refine lv_if_eq hx hb d_R_rename_122 rfl (fun hc => ?_) (fun hc => ?_)
        · rw [if_pos hc] at h
          exact w_R_rename_128 h_p0 h_p0_m h_p0_d h_p0_fresh h_p0_young h_p0_dropped h_p0_released h_p0_owed h_p0_counted h_p0_inMemory h_p0_onDisk h_p0_thn F young' dropped' mem' dsk' fresh' released' owed' counted' inMemory' onDisk' thn' moved' r ⟨cf, hr, hlk, hK, hN, hA⟩ x1 x2 x3 x4 x5 x6 young dropped mem dsk fresh released owed counted inMemory onDisk thn_108 moved h H locs ls (lv_sub hl [0, 1, 2, 3, 4, 5, 6] rfl) hP hD hS
        · rw [if_neg hc] at h
          refine lv_bipush (v := (-4)) hx hb d_R_rename_125 (by decide) ?_
          cases h
          exact sc_iret cf hr hlk hK hP hD hS d_R_rename_127
    · rw [if_neg hc] at h
      refine lv_aload_n hx hb d_R_rename_77 rfl (lv_at hl 0 rfl) ?_
      refine va_get (D := D) (ci := 2) (v := .ref h_p0_thn) (C := R_R) (T := F_R) (N := 12) hx hb ht in_R hown hK hP 0 rfl rfl 10 (by decide) (ht _ f_R_41) (fun _ h9 => h9) rfl d_R_rename_78 ?_
      refine lv_iload hx hb d_R_rename_81 (lv_at hl 7 rfl) ?_
      refine lv_iload hx hb d_R_rename_83 (lv_at hl 7 rfl) ?_
      refine lv_iload hx hb d_R_rename_85 (lv_at hl 5 rfl) ?_
      refine lv_icmp_ne hx hb d_R_rename_87 rfl (fun hc => ?_) (fun hc => ?_)
      · rw [if_neg hc] at h
        refine lv_iconst (v := (nI 0)) hx hb d_R_rename_94 (by decide) ?_
        exact w_R_rename_95 h_p0 h_p0_m h_p0_d h_p0_fresh h_p0_young h_p0_dropped h_p0_released h_p0_owed h_p0_counted h_p0_inMemory h_p0_onDisk h_p0_thn F young' dropped' mem' dsk' fresh' released' owed' counted' inMemory' onDisk' thn' moved' r _ ⟨cf, hr, hlk, hK, hN, hA⟩ ih x1 x2 x3 x4 x5 x6 x7 x7 (nI 0) young dropped mem dsk fresh released owed counted inMemory onDisk thn moved h H locs ls (lv_sub hl [0, 1, 2, 3, 4, 5, 6, 7] rfl) hP hD hS
      · rw [if_pos hc] at h
        refine lv_iconst (v := (nI 1)) hx hb d_R_rename_90 (by decide) ?_
        refine lv_goto hx hb d_R_rename_91 rfl ?_
        exact w_R_rename_95 h_p0 h_p0_m h_p0_d h_p0_fresh h_p0_young h_p0_dropped h_p0_released h_p0_owed h_p0_counted h_p0_inMemory h_p0_onDisk h_p0_thn F young' dropped' mem' dsk' fresh' released' owed' counted' inMemory' onDisk' thn' moved' r _ ⟨cf, hr, hlk, hK, hN, hA⟩ ih x1 x2 x3 x4 x5 x6 x7 x7 (nI 1) young dropped mem dsk fresh released owed counted inMemory onDisk thn moved h H locs ls (lv_sub hl [0, 1, 2, 3, 4, 5, 6, 7] rfl) hP hD hS
set_option maxHeartbeats 4000000 in
set_option maxRecDepth 100000 in
theorem w_R_rename_65 {p : Program} {l : Launch} {e : Env} {s : State} {m : MethodId} {args : Array Value} {below : List Frame} {meth : Method} {c : Code} {D : va_G} {cI cZ : ClassId} {A : Nat → Prop} (h_p0 h_p0_m h_p0_d h_p0_fresh h_p0_young h_p0_dropped h_p0_released h_p0_owed h_p0_counted h_p0_inMemory h_p0_onDisk h_p0_thn : Nat) (F : Nat) (young' : (Nat → Int32)) (dropped' : (Nat → Int32)) (mem' : (Nat → Int32)) (dsk' : (Nat → Int32)) (fresh' : (Nat → Int32)) (released' : (Nat → Int32)) (owed' : (Nat → Int32)) (counted' : (Nat → Int32)) (inMemory' : (Nat → Int32)) (onDisk' : (Nat → Int32)) (thn' : (Nat → Int32)) (moved' : Int32) (r : Int32) (cx : cx_ok p s m args meth c b_R_rename 8 o_R_rename "OrderedVolumeModel" (some .int) D cI cZ A) : ∀ (x1 : Int32) (x2 : Int32) (x3 : Int32) (x4 : Int32) (x5 : Int32) (t0 : Int32) (young : (Nat → Int32)) (dropped : (Nat → Int32)) (mem : (Nat → Int32)) (dsk : (Nat → Int32)) (fresh : (Nat → Int32)) (released : (Nat → Int32)) (owed : (Nat → Int32)) (counted : (Nat → Int32)) (inMemory : (Nat → Int32)) (onDisk : (Nat → Int32)) (thn : (Nat → Int32)) (moved : Int32), s_R_rename_65 F x1 x2 x3 x4 x5 t0 young dropped mem dsk fresh released owed counted inMemory onDisk thn moved = some (r, young', dropped', mem', dsk', fresh', released', owed', counted', inMemory', onDisk', thn', moved') → wk_G p l e rm_R_rename s m args below meth c (sc_Qi below args s D cI cZ A (w_R cI cZ h_p0 h_p0_m h_p0_d h_p0_fresh h_p0_young h_p0_dropped h_p0_released h_p0_owed h_p0_counted h_p0_inMemory h_p0_onDisk h_p0_thn (mem') (dsk') (fresh') (young') (dropped') (released') (owed') (counted') (inMemory') (onDisk') (thn') (moved')) r) D A 8 65 [.int t0] [(0, .ref h_p0), (1, .int x1), (2, .int x2), (3, .int x3), (4, .int x4), (5, .int x5)] (w_R cI cZ h_p0 h_p0_m h_p0_d h_p0_fresh h_p0_young h_p0_dropped h_p0_released h_p0_owed h_p0_counted h_p0_inMemory h_p0_onDisk h_p0_thn mem dsk fresh young dropped released owed counted inMemory onDisk thn moved) := by
  obtain ⟨cf, hr, hlk, hK, hN, hA⟩ := cx
  have hx := cf.1
  have hb := cf.2.1
  have hown := cf.2.2.2.1
  have ht : ∀ w ∈ wA, w.before args s = true := fun w h => cf.2.2.2.2 w (List.mem_cons_of_mem _ h)
  intro x1 x2 x3 x4 x5 t0 young dropped mem dsk fresh released owed counted inMemory onDisk thn moved h H locs ls hl hP hD hS
  unfold s_R_rename_65 at h
  refine lv_istore (lv' := [(6, .int t0), (0, .ref h_p0), (1, .int x1), (2, .int x2), (3, .int x3), (4, .int x4), (5, .int x5)]) hx hb d_R_rename_65 hl (by decide) rfl (fun ls hl => ?_)
  refine lv_iconst (v := (nI 0)) hx hb d_R_rename_67 (by decide) ?_
  refine lv_istore (lv' := [(7, .int (nI 0)), (6, .int t0), (0, .ref h_p0), (1, .int x1), (2, .int x2), (3, .int x3), (4, .int x4), (5, .int x5)]) hx hb d_R_rename_68 hl (by decide) rfl (fun ls hl => ?_)
  exact w_R_rename_70 h_p0 h_p0_m h_p0_d h_p0_fresh h_p0_young h_p0_dropped h_p0_released h_p0_owed h_p0_counted h_p0_inMemory h_p0_onDisk h_p0_thn F young' dropped' mem' dsk' fresh' released' owed' counted' inMemory' onDisk' thn' moved' r ⟨cf, hr, hlk, hK, hN, hA⟩ F x1 x2 x3 x4 x5 t0 (nI 0) young dropped mem dsk fresh released owed counted inMemory onDisk thn moved h H locs ls (lv_sub hl [2, 3, 4, 5, 6, 7, 1, 0] rfl) hP hD hS
set_option maxHeartbeats 4000000 in
set_option maxRecDepth 100000 in
theorem c_R_rename (l : Launch) (D : va_G) (cI cZ : ClassId) (h_p0 h_p0_m h_p0_d h_p0_fresh h_p0_young h_p0_dropped h_p0_released h_p0_owed h_p0_counted h_p0_inMemory h_p0_onDisk h_p0_thn : Nat) (F : Nat) (mem : (Nat → Int32)) (dsk : (Nat → Int32)) (fresh : (Nat → Int32)) (young : (Nat → Int32)) (dropped : (Nat → Int32)) (released : (Nat → Int32)) (owed : (Nat → Int32)) (counted : (Nat → Int32)) (inMemory : (Nat → Int32)) (onDisk : (Nat → Int32)) (thn : (Nat → Int32)) (moved : Int32) (young' : (Nat → Int32)) (dropped' : (Nat → Int32)) (mem' : (Nat → Int32)) (dsk' : (Nat → Int32)) (fresh' : (Nat → Int32)) (released' : (Nat → Int32)) (owed' : (Nat → Int32)) (counted' : (Nat → Int32)) (inMemory' : (Nat → Int32)) (onDisk' : (Nat → Int32)) (thn' : (Nat → Int32)) (moved' : Int32) (x1 : Int32) (x2 : Int32) (x3 : Int32) (x4 : Int32) (r : Int32) (h : s_R_rename F x1 x2 x3 x4 young dropped mem dsk fresh released owed counted inMemory onDisk thn moved = some (r, young', dropped', mem', dsk', fresh', released', owed', counted', inMemory', onDisk', thn', moved')) : sc_i l y_R_rename (o_R_rename :: wA) rm_R_rename D cI cZ [.ref h_p0, .int x1, .int x2, .int x3, .int x4] (w_R cI cZ h_p0 h_p0_m h_p0_d h_p0_fresh h_p0_young h_p0_dropped h_p0_released h_p0_owed h_p0_counted h_p0_inMemory h_p0_onDisk h_p0_thn mem dsk fresh young dropped released owed counted inMemory onDisk thn moved) (w_R cI cZ h_p0 h_p0_m h_p0_d h_p0_fresh h_p0_young h_p0_dropped h_p0_released h_p0_owed h_p0_counted h_p0_inMemory h_p0_onDisk h_p0_thn (mem') (dsk') (fresh') (young') (dropped') (released') (owed') (counted') (inMemory') (onDisk') (thn') (moved')) r := by
  refine sc_i_of (cc := b_R_rename) (maxL := 8) (ret := (some .int)) (by decide) rfl (Nat.le_of_ble_eq_true rfl) ?_
  intro p e s m below meth c A cf hr hlk hK hN hA H locs ls hl hP hD hS
  have hx := cf.1
  have hb := cf.2.1
  have hown := cf.2.2.2.1
  have ht : ∀ w ∈ wA, w.before _ s = true := fun w h => cf.2.2.2.2 w (List.mem_cons_of_mem _ h)
  unfold s_R_rename at h
  have hl : lv_has ls 8 [(0, .ref h_p0), (1, .int x1), (2, .int x2), (3, .int x3), (4, .int x4)] := hl
  refine lv_aload_n hx hb d_R_rename_0 rfl (lv_at hl 0 rfl) ?_
  refine lv_iload_n hx hb d_R_rename_1 rfl (lv_at hl 1 rfl) ?_
  refine lv_iload_n hx hb d_R_rename_2 rfl (lv_at hl 2 rfl) ?_
  obtain ⟨⟨r3, inMemory_3⟩, h3, h⟩ := bd_some h
  dsimp only at h
  refine wk_Vi (As := [.int x1, .int x2]) (rest := []) (wc := (w_R cI cZ h_p0 h_p0_m h_p0_d h_p0_fresh h_p0_young h_p0_dropped h_p0_released h_p0_owed h_p0_counted h_p0_inMemory h_p0_onDisk h_p0_thn mem dsk fresh young dropped released owed counted inMemory onDisk thn moved)) (w1 := (w_R cI cZ h_p0 h_p0_m h_p0_d h_p0_fresh h_p0_young h_p0_dropped h_p0_released h_p0_owed h_p0_counted h_p0_inMemory h_p0_onDisk h_p0_thn mem dsk fresh young dropped released owed counted inMemory_3 onDisk thn moved)) (wr := []) (wz := (w_R cI cZ h_p0 h_p0_m h_p0_d h_p0_fresh h_p0_young h_p0_dropped h_p0_released h_p0_owed h_p0_counted h_p0_inMemory h_p0_onDisk h_p0_thn mem dsk fresh young dropped released owed counted inMemory_3 onDisk thn moved)) cf hK hN hA (c_R_lookup l D cI cZ h_p0 h_p0_m h_p0_d h_p0_fresh h_p0_young h_p0_dropped h_p0_released h_p0_owed h_p0_counted h_p0_inMemory h_p0_onDisk h_p0_thn F mem dsk fresh young dropped released owed counted inMemory onDisk thn moved inMemory_3 x1 x2 r3 h3) k_R_134 ⟨rfl, rfl, by decide, by decide⟩ 2 rfl rfl rfl hl hP hD hS [0, 1, 2, 3, 4, 5, 6, 7, 8, 9, 10, 11] [] [0, 1, 2, 3, 4, 5, 6, 7, 8, 9, 10, 11] rfl rfl rfl (by decide) rfl rfl rfl rfl rfl (Nat.le_of_ble_eq_true rfl) rfl d_R_rename_3 (fun H locs hP hD hS => ?_)
  refine lv_istore (lv' := [(5, .int r3), (0, .ref h_p0), (1, .int x1), (2, .int x2), (3, .int x3), (4, .int x4)]) hx hb d_R_rename_6 hl (by decide) rfl (fun ls hl => ?_)
  refine lv_iload hx hb d_R_rename_8 (lv_at hl 0 rfl) ?_
  refine lv_if_lt hx hb d_R_rename_10 rfl (fun hc => ?_) (fun hc => ?_)
  · rw [if_pos hc] at h
    refine lv_iconst (v := (-1)) hx hb d_R_rename_30 (by decide) ?_
    cases h
    exact sc_iret cf hr hlk hK hP hD hS d_R_rename_31
  · rw [if_neg hc] at h
    refine lv_iload hx hb d_R_rename_13 (lv_at hl 5 rfl) ?_
    obtain ⟨r15, h15, h⟩ := bd_some h
    refine wk_Si (As := [.int x4]) (rest := []) (wc := []) (w1 := []) (wr := [(h_p0, .inr (2, [.ref h_p0_m, .ref h_p0_d, .ref h_p0_fresh, .ref h_p0_young, .ref h_p0_dropped, .ref h_p0_released, .ref h_p0_owed, .ref h_p0_counted, .ref h_p0_inMemory, .ref h_p0_onDisk, .ref h_p0_thn, .int moved])), (h_p0_m, .inl (cI, 1080, .inl mem)), (h_p0_d, .inl (cI, 1080, .inl dsk)), (h_p0_fresh, .inl (cZ, 36, .inl fresh)), (h_p0_young, .inl (cZ, 288, .inl young)), (h_p0_dropped, .inl (cI, 36, .inl dropped)), (h_p0_released, .inl (cZ, 18, .inl released)), (h_p0_owed, .inl (cI, 18, .inl owed)), (h_p0_counted, .inl (cI, 18, .inl counted)), (h_p0_inMemory, .inl (cZ, 18, .inl inMemory_3)), (h_p0_onDisk, .inl (cZ, 18, .inl onDisk)), (h_p0_thn, .inl (cZ, 18, .inl thn))]) (wz := (w_R cI cZ h_p0 h_p0_m h_p0_d h_p0_fresh h_p0_young h_p0_dropped h_p0_released h_p0_owed h_p0_counted h_p0_inMemory h_p0_onDisk h_p0_thn mem dsk fresh young dropped released owed counted inMemory_3 onDisk thn moved)) cf hK hN hA (c_R_isName l D cI cZ 0 x4 r15 h15) k_R_106 ⟨rfl, rfl, by decide, by decide⟩ hl hP hD hS [] [0, 1, 2, 3, 4, 5, 6, 7, 8, 9, 10, 11] [0, 1, 2, 3, 4, 5, 6, 7, 8, 9, 10, 11] rfl rfl rfl (by decide) rfl rfl rfl rfl rfl (Nat.le_of_ble_eq_true rfl) rfl d_R_rename_15 (fun H locs hP hD hS => ?_)
    refine lv_if_eq hx hb d_R_rename_18 rfl (fun hc => ?_) (fun hc => ?_)
    · rw [if_pos hc] at h
      refine lv_iconst (v := (-1)) hx hb d_R_rename_30 (by decide) ?_
      cases h
      exact sc_iret cf hr hlk hK hP hD hS d_R_rename_31
    · rw [if_neg hc] at h
      refine lv_aload_n hx hb d_R_rename_21 rfl (lv_at hl 1 rfl) ?_
      refine lv_iload_n hx hb d_R_rename_22 rfl (lv_at hl 4 rfl) ?_
      refine lv_iconst (v := (nI 2)) hx hb d_R_rename_23 (by decide) ?_
      obtain ⟨⟨r24, inMemory_24⟩, h24, h⟩ := bd_some h
      dsimp only at h
      refine wk_Vi (As := [.int x3, .int (nI 2)]) (rest := []) (wc := (w_R cI cZ h_p0 h_p0_m h_p0_d h_p0_fresh h_p0_young h_p0_dropped h_p0_released h_p0_owed h_p0_counted h_p0_inMemory h_p0_onDisk h_p0_thn mem dsk fresh young dropped released owed counted inMemory_3 onDisk thn moved)) (w1 := (w_R cI cZ h_p0 h_p0_m h_p0_d h_p0_fresh h_p0_young h_p0_dropped h_p0_released h_p0_owed h_p0_counted h_p0_inMemory h_p0_onDisk h_p0_thn mem dsk fresh young dropped released owed counted inMemory_24 onDisk thn moved)) (wr := []) (wz := (w_R cI cZ h_p0 h_p0_m h_p0_d h_p0_fresh h_p0_young h_p0_dropped h_p0_released h_p0_owed h_p0_counted h_p0_inMemory h_p0_onDisk h_p0_thn mem dsk fresh young dropped released owed counted inMemory_24 onDisk thn moved)) cf hK hN hA (c_R_holds l D cI cZ h_p0 h_p0_m h_p0_d h_p0_fresh h_p0_young h_p0_dropped h_p0_released h_p0_owed h_p0_counted h_p0_inMemory h_p0_onDisk h_p0_thn F mem dsk fresh young dropped released owed counted inMemory_3 onDisk thn moved inMemory_24 x3 (nI 2) r24 h24) k_R_109 ⟨rfl, rfl, by decide, by decide⟩ 2 rfl rfl rfl hl hP hD hS [0, 1, 2, 3, 4, 5, 6, 7, 8, 9, 10, 11] [] [0, 1, 2, 3, 4, 5, 6, 7, 8, 9, 10, 11] rfl rfl rfl (by decide) rfl rfl rfl rfl rfl (Nat.le_of_ble_eq_true rfl) rfl d_R_rename_24 (fun H locs hP hD hS => ?_)
      refine lv_if_ne hx hb d_R_rename_27 rfl (fun hc => ?_) (fun hc => ?_)
      · rw [if_neg hc] at h
        refine lv_aload_n hx hb d_R_rename_32 rfl (lv_at hl 1 rfl) ?_
        refine lv_iload_n hx hb d_R_rename_33 rfl (lv_at hl 4 rfl) ?_
        refine lv_iload hx hb d_R_rename_34 (lv_at hl 5 rfl) ?_
        obtain ⟨r36, h36, h⟩ := bd_some h
        refine wk_Vi (As := [.int x3, .int x4]) (rest := []) (wc := (w_R cI cZ h_p0 h_p0_m h_p0_d h_p0_fresh h_p0_young h_p0_dropped h_p0_released h_p0_owed h_p0_counted h_p0_inMemory h_p0_onDisk h_p0_thn mem dsk fresh young dropped released owed counted inMemory_24 onDisk thn moved)) (w1 := (w_R cI cZ h_p0 h_p0_m h_p0_d h_p0_fresh h_p0_young h_p0_dropped h_p0_released h_p0_owed h_p0_counted h_p0_inMemory h_p0_onDisk h_p0_thn mem dsk fresh young dropped released owed counted inMemory_24 onDisk thn moved)) (wr := []) (wz := (w_R cI cZ h_p0 h_p0_m h_p0_d h_p0_fresh h_p0_young h_p0_dropped h_p0_released h_p0_owed h_p0_counted h_p0_inMemory h_p0_onDisk h_p0_thn mem dsk fresh young dropped released owed counted inMemory_24 onDisk thn moved)) cf hK hN hA (c_R_find l D cI cZ h_p0 h_p0_m h_p0_d h_p0_fresh h_p0_young h_p0_dropped h_p0_released h_p0_owed h_p0_counted h_p0_inMemory h_p0_onDisk h_p0_thn F mem dsk fresh young dropped released owed counted inMemory_24 onDisk thn moved x3 x4 r36 h36) k_R_113 ⟨rfl, rfl, by decide, by decide⟩ 2 rfl rfl rfl hl hP hD hS [0, 1, 2, 3, 4, 5, 6, 7, 8, 9, 10, 11] [] [0, 1, 2, 3, 4, 5, 6, 7, 8, 9, 10, 11] rfl rfl rfl (by decide) rfl rfl rfl rfl rfl (Nat.le_of_ble_eq_true rfl) rfl d_R_rename_36 (fun H locs hP hD hS => ?_)
        refine lv_if_lt hx hb d_R_rename_39 rfl (fun hc => ?_) (fun hc => ?_)
        · rw [if_pos hc] at h
          refine lv_aload_n hx hb d_R_rename_45 rfl (lv_at hl 1 rfl) ?_
          refine va_get (D := D) (ci := 2) (v := .ref h_p0_m) (C := R_R) (T := F_R) (N := 12) hx hb ht in_R hown hK hP 0 rfl rfl 0 (by decide) (ht _ f_R_7) (fun _ h9 => h9) rfl d_R_rename_46 ?_
          refine lv_iload hx hb d_R_rename_49 (lv_at hl 0 rfl) ?_
          refine lv_iconst (v := (nI 0)) hx hb d_R_rename_51 (by decide) ?_
          obtain ⟨r52, h52, h⟩ := bd_some h
          refine wk_Si (As := [.int r3, .int (nI 0)]) (rest := [.ref h_p0_m]) (wc := []) (w1 := []) (wr := [(h_p0, .inr (2, [.ref h_p0_m, .ref h_p0_d, .ref h_p0_fresh, .ref h_p0_young, .ref h_p0_dropped, .ref h_p0_released, .ref h_p0_owed, .ref h_p0_counted, .ref h_p0_inMemory, .ref h_p0_onDisk, .ref h_p0_thn, .int moved])), (h_p0_m, .inl (cI, 1080, .inl mem)), (h_p0_d, .inl (cI, 1080, .inl dsk)), (h_p0_fresh, .inl (cZ, 36, .inl fresh)), (h_p0_young, .inl (cZ, 288, .inl young)), (h_p0_dropped, .inl (cI, 36, .inl dropped)), (h_p0_released, .inl (cZ, 18, .inl released)), (h_p0_owed, .inl (cI, 18, .inl owed)), (h_p0_counted, .inl (cI, 18, .inl counted)), (h_p0_inMemory, .inl (cZ, 18, .inl inMemory_24)), (h_p0_onDisk, .inl (cZ, 18, .inl onDisk)), (h_p0_thn, .inl (cZ, 18, .inl thn))]) (wz := (w_R cI cZ h_p0 h_p0_m h_p0_d h_p0_fresh h_p0_young h_p0_dropped h_p0_released h_p0_owed h_p0_counted h_p0_inMemory h_p0_onDisk h_p0_thn mem dsk fresh young dropped released owed counted inMemory_24 onDisk thn moved)) cf hK hN hA (c_R_at l D cI cZ 0 r3 (nI 0) r52 h52) k_R_44 ⟨rfl, rfl, by decide, by decide⟩ hl hP hD hS [] [0, 1, 2, 3, 4, 5, 6, 7, 8, 9, 10, 11] [0, 1, 2, 3, 4, 5, 6, 7, 8, 9, 10, 11] rfl rfl rfl (by decide) rfl rfl rfl rfl rfl (Nat.le_of_ble_eq_true rfl) rfl d_R_rename_52 (fun H locs hP hD hS => ?_)
          obtain ⟨hin, h⟩ := gr_some h
          refine va_iald hx hb hK hP 1 0 rfl rfl hin d_R_rename_55 ?_
          generalize mem r52.toNatClampNeg = v55 at h ⊢
          refine lv_iconst (v := (nI 2)) hx hb d_R_rename_56 (by decide) ?_
          refine lv_icmp_ne hx hb d_R_rename_57 rfl (fun hc => ?_) (fun hc => ?_)
          · rw [if_neg hc] at h
            refine lv_iconst (v := (nI 0)) hx hb d_R_rename_64 (by decide) ?_
            exact w_R_rename_65 h_p0 h_p0_m h_p0_d h_p0_fresh h_p0_young h_p0_dropped h_p0_released h_p0_owed h_p0_counted h_p0_inMemory h_p0_onDisk h_p0_thn F young' dropped' mem' dsk' fresh' released' owed' counted' inMemory' onDisk' thn' moved' r ⟨cf, hr, hlk, hK, hN, hA⟩ x1 x2 x3 x4 r3 (nI 0) young dropped mem dsk fresh released owed counted inMemory_24 onDisk thn moved h H locs ls (lv_sub hl [1, 2, 3, 4, 5, 0] rfl) hP hD hS
          · rw [if_pos hc] at h
            refine lv_iconst (v := (nI 1)) hx hb d_R_rename_60 (by decide) ?_
            refine lv_goto hx hb d_R_rename_61 rfl ?_
            exact w_R_rename_65 h_p0 h_p0_m h_p0_d h_p0_fresh h_p0_young h_p0_dropped h_p0_released h_p0_owed h_p0_counted h_p0_inMemory h_p0_onDisk h_p0_thn F young' dropped' mem' dsk' fresh' released' owed' counted' inMemory' onDisk' thn' moved' r ⟨cf, hr, hlk, hK, hN, hA⟩ x1 x2 x3 x4 r3 (nI 1) young dropped mem dsk fresh released owed counted inMemory_24 onDisk thn moved h H locs ls (lv_sub hl [1, 2, 3, 4, 5, 0] rfl) hP hD hS
        · rw [if_neg hc] at h
          refine lv_bipush (v := (-2)) hx hb d_R_rename_42 (by decide) ?_
          cases h
          exact sc_iret cf hr hlk hK hP hD hS d_R_rename_44
      · rw [if_pos hc] at h
        refine lv_iconst (v := (-1)) hx hb d_R_rename_30 (by decide) ?_
        cases h
        exact sc_iret cf hr hlk hK hP hD hS d_R_rename_31
set_option maxHeartbeats 4000000 in
set_option maxRecDepth 100000 in
theorem w_R_write_96 {p : Program} {l : Launch} {e : Env} {s : State} {m : MethodId} {args : Array Value} {below : List Frame} {meth : Method} {c : Code} {D : va_G} {cI cZ : ClassId} {A : Nat → Prop} (h_p0 h_p0_m h_p0_d h_p0_fresh h_p0_young h_p0_dropped h_p0_released h_p0_owed h_p0_counted h_p0_inMemory h_p0_onDisk h_p0_thn : Nat) (F : Nat) (young' : (Nat → Int32)) (dropped' : (Nat → Int32)) (mem' : (Nat → Int32)) (dsk' : (Nat → Int32)) (fresh' : (Nat → Int32)) (released' : (Nat → Int32)) (owed' : (Nat → Int32)) (counted' : (Nat → Int32)) (inMemory' : (Nat → Int32)) (onDisk' : (Nat → Int32)) (thn' : (Nat → Int32)) (moved' : Int32) (r : Int32) (cx : cx_ok p s m args meth c b_R_write 6 o_R_write "OrderedVolumeModel" (some .int) D cI cZ A) : ∀ (x1 : Int32) (x2 : Int32) (x3 : Int32) (x4 : Int32) (young : (Nat → Int32)) (dropped : (Nat → Int32)) (mem : (Nat → Int32)) (dsk : (Nat → Int32)) (fresh : (Nat → Int32)) (released : (Nat → Int32)) (owed : (Nat → Int32)) (counted : (Nat → Int32)) (inMemory : (Nat → Int32)) (onDisk : (Nat → Int32)) (thn : (Nat → Int32)) (moved : Int32), s_R_write_96 F x1 x2 x3 x4 young dropped mem dsk fresh released owed counted inMemory onDisk thn moved = some (r, young', dropped', mem', dsk', fresh', released', owed', counted', inMemory', onDisk', thn', moved') → wk_G p l e rm_R_write s m args below meth c (sc_Qi below args s D cI cZ A (w_R cI cZ h_p0 h_p0_m h_p0_d h_p0_fresh h_p0_young h_p0_dropped h_p0_released h_p0_owed h_p0_counted h_p0_inMemory h_p0_onDisk h_p0_thn (mem') (dsk') (fresh') (young') (dropped') (released') (owed') (counted') (inMemory') (onDisk') (thn') (moved')) r) D A 6 96 [] [(0, .ref h_p0), (1, .int x1), (2, .int x2), (3, .int x3), (4, .int x4)] (w_R cI cZ h_p0 h_p0_m h_p0_d h_p0_fresh h_p0_young h_p0_dropped h_p0_released h_p0_owed h_p0_counted h_p0_inMemory h_p0_onDisk h_p0_thn mem dsk fresh young dropped released owed counted inMemory onDisk thn moved) := by
  obtain ⟨cf, hr, hlk, hK, hN, hA⟩ := cx
  have hx := cf.1
  have hb := cf.2.1
  have hown := cf.2.2.2.1
  have ht : ∀ w ∈ wA, w.before args s = true := fun w h => cf.2.2.2.2 w (List.mem_cons_of_mem _ h)
  intro x1 x2 x3 x4 young dropped mem dsk fresh released owed counted inMemory onDisk thn moved h H locs ls hl hP hD hS
  unfold s_R_write_96 at h
  refine lv_aload_n hx hb d_R_write_96 rfl (lv_at hl 0 rfl) ?_
  refine va_get (D := D) (ci := 2) (v := .ref h_p0_m) (C := R_R) (T := F_R) (N := 12) hx hb ht in_R hown hK hP 0 rfl rfl 0 (by decide) (ht _ f_R_7) (fun _ h9 => h9) rfl d_R_write_97 ?_
  refine lv_iload_n hx hb d_R_write_100 rfl (lv_at hl 1 rfl) ?_
  refine lv_iconst (v := (nI 2)) hx hb d_R_write_101 (by decide) ?_
  refine lv_iload hx hb d_R_write_102 (lv_at hl 4 rfl) ?_
  refine lv_iadd hx hb d_R_write_104 ?_
  obtain ⟨r105, h105, h⟩ := bd_some h
  refine wk_Si (As := [.int x1, .int ((nI 2) + x4)]) (rest := [.ref h_p0_m]) (wc := []) (w1 := []) (wr := [(h_p0, .inr (2, [.ref h_p0_m, .ref h_p0_d, .ref h_p0_fresh, .ref h_p0_young, .ref h_p0_dropped, .ref h_p0_released, .ref h_p0_owed, .ref h_p0_counted, .ref h_p0_inMemory, .ref h_p0_onDisk, .ref h_p0_thn, .int moved])), (h_p0_m, .inl (cI, 1080, .inl mem)), (h_p0_d, .inl (cI, 1080, .inl dsk)), (h_p0_fresh, .inl (cZ, 36, .inl fresh)), (h_p0_young, .inl (cZ, 288, .inl young)), (h_p0_dropped, .inl (cI, 36, .inl dropped)), (h_p0_released, .inl (cZ, 18, .inl released)), (h_p0_owed, .inl (cI, 18, .inl owed)), (h_p0_counted, .inl (cI, 18, .inl counted)), (h_p0_inMemory, .inl (cZ, 18, .inl inMemory)), (h_p0_onDisk, .inl (cZ, 18, .inl onDisk)), (h_p0_thn, .inl (cZ, 18, .inl thn))]) (wz := (w_R cI cZ h_p0 h_p0_m h_p0_d h_p0_fresh h_p0_young h_p0_dropped h_p0_released h_p0_owed h_p0_counted h_p0_inMemory h_p0_onDisk h_p0_thn mem dsk fresh young dropped released owed counted inMemory onDisk thn moved)) cf hK hN hA (c_R_at l D cI cZ 0 x1 ((nI 2) + x4) r105 h105) k_R_44 ⟨rfl, rfl, by decide, by decide⟩ hl hP hD hS [] [0, 1, 2, 3, 4, 5, 6, 7, 8, 9, 10, 11] [0, 1, 2, 3, 4, 5, 6, 7, 8, 9, 10, 11] rfl rfl rfl (by decide) rfl rfl rfl rfl rfl (Nat.le_of_ble_eq_true rfl) rfl d_R_write_105 (fun H locs hP hD hS => ?_)
  obtain ⟨hin, h⟩ := gr_some h
  refine va_iald hx hb hK hP 1 0 rfl rfl hin d_R_write_108 ?_
  generalize mem r105.toNatClampNeg = v108 at h ⊢
  refine lv_istore (lv' := [(5, .int v108), (0, .ref h_p0), (1, .int x1), (2, .int x2), (3, .int x3), (4, .int x4)]) hx hb d_R_write_109 hl (by decide) rfl (fun ls hl => ?_)
  refine lv_aload_n hx hb d_R_write_111 rfl (lv_at hl 1 rfl) ?_
  refine va_get (D := D) (ci := 2) (v := .ref h_p0_m) (C := R_R) (T := F_R) (N := 12) hx hb ht in_R hown hK hP 0 rfl rfl 0 (by decide) (ht _ f_R_7) (fun _ h9 => h9) rfl d_R_write_112 ?_
  refine lv_bipush (v := (nI 30)) hx hb d_R_write_115 (by decide) ?_
  refine lv_iload hx hb d_R_write_117 (lv_at hl 0 rfl) ?_
  refine lv_imul hx hb d_R_write_119 ?_
  refine lv_iload_n hx hb d_R_write_120 rfl (lv_at hl 3 rfl) ?_
  refine lv_bipush (v := (nI 8)) hx hb d_R_write_121 (by decide) ?_
  refine lv_irem hx hb d_R_write_123 (by decide) ?_
  refine lv_iadd hx hb d_R_write_124 ?_
  refine lv_iload_n hx hb d_R_write_125 rfl (lv_at hl 4 rfl) ?_
  obtain ⟨hin, h⟩ := ga_some h
  refine va_iast hx hb hK hP hD hS 1 0 rfl rfl hin d_R_write_126 (fun H locs hP hD hS => ?_)
  have hP : va_P D clA (w_R cI cZ h_p0 h_p0_m h_p0_d h_p0_fresh h_p0_young h_p0_dropped h_p0_released h_p0_owed h_p0_counted h_p0_inMemory h_p0_onDisk h_p0_thn (upd mem (((nI 30) * v108) + (x2 - x2 / (nI 8) * (nI 8))).toNatClampNeg x3) dsk fresh young dropped released owed counted inMemory onDisk thn moved) H := hP
  have hD : va_D A (w_R cI cZ h_p0 h_p0_m h_p0_d h_p0_fresh h_p0_young h_p0_dropped h_p0_released h_p0_owed h_p0_counted h_p0_inMemory h_p0_onDisk h_p0_thn (upd mem (((nI 30) * v108) + (x2 - x2 / (nI 8) * (nI 8))).toNatClampNeg x3) dsk fresh young dropped released owed counted inMemory onDisk thn moved) := hD
  refine lv_iload hx hb d_R_write_127 (lv_at hl 0 rfl) ?_
  cases h
  exact sc_iret cf hr hlk hK hP hD hS d_R_write_129
set_option maxHeartbeats 4000000 in
set_option maxRecDepth 100000 in
theorem w_R_write_58 {p : Program} {l : Launch} {e : Env} {s : State} {m : MethodId} {args : Array Value} {below : List Frame} {meth : Method} {c : Code} {D : va_G} {cI cZ : ClassId} {A : Nat → Prop} (h_p0 h_p0_m h_p0_d h_p0_fresh h_p0_young h_p0_dropped h_p0_released h_p0_owed h_p0_counted h_p0_inMemory h_p0_onDisk h_p0_thn : Nat) (F : Nat) (young' : (Nat → Int32)) (dropped' : (Nat → Int32)) (mem' : (Nat → Int32)) (dsk' : (Nat → Int32)) (fresh' : (Nat → Int32)) (released' : (Nat → Int32)) (owed' : (Nat → Int32)) (counted' : (Nat → Int32)) (inMemory' : (Nat → Int32)) (onDisk' : (Nat → Int32)) (thn' : (Nat → Int32)) (moved' : Int32) (r : Int32) (cx : cx_ok p s m args meth c b_R_write 6 o_R_write "OrderedVolumeModel" (some .int) D cI cZ A) : ∀ (x1 : Int32) (x2 : Int32) (x3 : Int32) (x4 : Int32) (young : (Nat → Int32)) (dropped : (Nat → Int32)) (mem : (Nat → Int32)) (dsk : (Nat → Int32)) (fresh : (Nat → Int32)) (released : (Nat → Int32)) (owed : (Nat → Int32)) (counted : (Nat → Int32)) (inMemory : (Nat → Int32)) (onDisk : (Nat → Int32)) (thn : (Nat → Int32)) (moved : Int32), s_R_write_58 F x1 x2 x3 x4 young dropped mem dsk fresh released owed counted inMemory onDisk thn moved = some (r, young', dropped', mem', dsk', fresh', released', owed', counted', inMemory', onDisk', thn', moved') → wk_G p l e rm_R_write s m args below meth c (sc_Qi below args s D cI cZ A (w_R cI cZ h_p0 h_p0_m h_p0_d h_p0_fresh h_p0_young h_p0_dropped h_p0_released h_p0_owed h_p0_counted h_p0_inMemory h_p0_onDisk h_p0_thn (mem') (dsk') (fresh') (young') (dropped') (released') (owed') (counted') (inMemory') (onDisk') (thn') (moved')) r) D A 6 58 [] [(0, .ref h_p0), (1, .int x1), (2, .int x2), (3, .int x3), (4, .int x4)] (w_R cI cZ h_p0 h_p0_m h_p0_d h_p0_fresh h_p0_young h_p0_dropped h_p0_released h_p0_owed h_p0_counted h_p0_inMemory h_p0_onDisk h_p0_thn mem dsk fresh young dropped released owed counted inMemory onDisk thn moved) := by
  obtain ⟨cf, hr, hlk, hK, hN, hA⟩ := cx
  have hx := cf.1
  have hb := cf.2.1
  have hown := cf.2.2.2.1
  have ht : ∀ w ∈ wA, w.before args s = true := fun w h => cf.2.2.2.2 w (List.mem_cons_of_mem _ h)
  intro x1 x2 x3 x4 young dropped mem dsk fresh released owed counted inMemory onDisk thn moved h H locs ls hl hP hD hS
  unfold s_R_write_58 at h
  refine lv_aload_n hx hb d_R_write_58 rfl (lv_at hl 0 rfl) ?_
  refine lv_iload_n hx hb d_R_write_59 rfl (lv_at hl 1 rfl) ?_
  refine lv_iload hx hb d_R_write_60 (lv_at hl 4 rfl) ?_
  obtain ⟨r62, h62, h⟩ := bd_some h
  refine wk_Vi (As := [.int x1, .int x4]) (rest := []) (wc := (w_R cI cZ h_p0 h_p0_m h_p0_d h_p0_fresh h_p0_young h_p0_dropped h_p0_released h_p0_owed h_p0_counted h_p0_inMemory h_p0_onDisk h_p0_thn mem dsk fresh young dropped released owed counted inMemory onDisk thn moved)) (w1 := (w_R cI cZ h_p0 h_p0_m h_p0_d h_p0_fresh h_p0_young h_p0_dropped h_p0_released h_p0_owed h_p0_counted h_p0_inMemory h_p0_onDisk h_p0_thn mem dsk fresh young dropped released owed counted inMemory onDisk thn moved)) (wr := []) (wz := (w_R cI cZ h_p0 h_p0_m h_p0_d h_p0_fresh h_p0_young h_p0_dropped h_p0_released h_p0_owed h_p0_counted h_p0_inMemory h_p0_onDisk h_p0_thn mem dsk fresh young dropped released owed counted inMemory onDisk thn moved)) cf hK hN hA (c_R_blockFor l D cI cZ h_p0 h_p0_m h_p0_d h_p0_fresh h_p0_young h_p0_dropped h_p0_released h_p0_owed h_p0_counted h_p0_inMemory h_p0_onDisk h_p0_thn F mem dsk fresh young dropped released owed counted inMemory onDisk thn moved x1 x4 r62 h62) k_R_145 ⟨rfl, rfl, by decide, by decide⟩ 2 rfl rfl rfl hl hP hD hS [0, 1, 2, 3, 4, 5, 6, 7, 8, 9, 10, 11] [] [0, 1, 2, 3, 4, 5, 6, 7, 8, 9, 10, 11] rfl rfl rfl (by decide) rfl rfl rfl rfl rfl (Nat.le_of_ble_eq_true rfl) rfl d_R_write_62 (fun H locs hP hD hS => ?_)
  refine lv_istore (lv' := [(5, .int r62), (0, .ref h_p0), (1, .int x1), (2, .int x2), (3, .int x3), (4, .int x4)]) hx hb d_R_write_65 hl (by decide) rfl (fun ls hl => ?_)
  refine lv_iload hx hb d_R_write_67 (lv_at hl 0 rfl) ?_
  refine lv_if_ge hx hb d_R_write_69 rfl (fun hc => ?_) (fun hc => ?_)
  · rw [if_pos hc] at h
    refine lv_aload_n hx hb d_R_write_75 rfl (lv_at hl 1 rfl) ?_
    refine lv_iload hx hb d_R_write_76 (lv_at hl 0 rfl) ?_
    obtain ⟨⟨mem_78, fresh_78⟩, h78, h⟩ := bd_some h
    dsimp only at h
    refine wk_Vv (As := [.int r62]) (rest := []) (wc := (w_R cI cZ h_p0 h_p0_m h_p0_d h_p0_fresh h_p0_young h_p0_dropped h_p0_released h_p0_owed h_p0_counted h_p0_inMemory h_p0_onDisk h_p0_thn mem dsk fresh young dropped released owed counted inMemory onDisk thn moved)) (w1 := (w_R cI cZ h_p0 h_p0_m h_p0_d h_p0_fresh h_p0_young h_p0_dropped h_p0_released h_p0_owed h_p0_counted h_p0_inMemory h_p0_onDisk h_p0_thn mem_78 dsk fresh_78 young dropped released owed counted inMemory onDisk thn moved)) (wr := []) (wz := (w_R cI cZ h_p0 h_p0_m h_p0_d h_p0_fresh h_p0_young h_p0_dropped h_p0_released h_p0_owed h_p0_counted h_p0_inMemory h_p0_onDisk h_p0_thn mem_78 dsk fresh_78 young dropped released owed counted inMemory onDisk thn moved)) cf hK hN hA (c_R_take l D cI cZ h_p0 h_p0_m h_p0_d h_p0_fresh h_p0_young h_p0_dropped h_p0_released h_p0_owed h_p0_counted h_p0_inMemory h_p0_onDisk h_p0_thn F mem dsk fresh young dropped released owed counted inMemory onDisk thn moved mem_78 fresh_78 r62 h78) k_R_127 ⟨rfl, rfl, by decide, by decide⟩ 2 rfl rfl rfl hl hP hD hS [0, 1, 2, 3, 4, 5, 6, 7, 8, 9, 10, 11] [] [0, 1, 2, 3, 4, 5, 6, 7, 8, 9, 10, 11] rfl rfl rfl (by decide) rfl rfl rfl rfl rfl (Nat.le_of_ble_eq_true rfl) rfl d_R_write_78 (fun H locs hP hD hS => ?_)
    refine lv_aload_n hx hb d_R_write_81 rfl (lv_at hl 1 rfl) ?_
    refine va_get (D := D) (ci := 2) (v := .ref h_p0_m) (C := R_R) (T := F_R) (N := 12) hx hb ht in_R hown hK hP 0 rfl rfl 0 (by decide) (ht _ f_R_7) (fun _ h9 => h9) rfl d_R_write_82 ?_
    refine lv_iload_n hx hb d_R_write_85 rfl (lv_at hl 2 rfl) ?_
    refine lv_iconst (v := (nI 2)) hx hb d_R_write_86 (by decide) ?_
    refine lv_iload hx hb d_R_write_87 (lv_at hl 5 rfl) ?_
    refine lv_iadd hx hb d_R_write_89 ?_
    obtain ⟨r90, h90, h⟩ := bd_some h
    refine wk_Si (As := [.int x1, .int ((nI 2) + x4)]) (rest := [.ref h_p0_m]) (wc := []) (w1 := []) (wr := [(h_p0, .inr (2, [.ref h_p0_m, .ref h_p0_d, .ref h_p0_fresh, .ref h_p0_young, .ref h_p0_dropped, .ref h_p0_released, .ref h_p0_owed, .ref h_p0_counted, .ref h_p0_inMemory, .ref h_p0_onDisk, .ref h_p0_thn, .int moved])), (h_p0_m, .inl (cI, 1080, .inl mem_78)), (h_p0_d, .inl (cI, 1080, .inl dsk)), (h_p0_fresh, .inl (cZ, 36, .inl fresh_78)), (h_p0_young, .inl (cZ, 288, .inl young)), (h_p0_dropped, .inl (cI, 36, .inl dropped)), (h_p0_released, .inl (cZ, 18, .inl released)), (h_p0_owed, .inl (cI, 18, .inl owed)), (h_p0_counted, .inl (cI, 18, .inl counted)), (h_p0_inMemory, .inl (cZ, 18, .inl inMemory)), (h_p0_onDisk, .inl (cZ, 18, .inl onDisk)), (h_p0_thn, .inl (cZ, 18, .inl thn))]) (wz := (w_R cI cZ h_p0 h_p0_m h_p0_d h_p0_fresh h_p0_young h_p0_dropped h_p0_released h_p0_owed h_p0_counted h_p0_inMemory h_p0_onDisk h_p0_thn mem_78 dsk fresh_78 young dropped released owed counted inMemory onDisk thn moved)) cf hK hN hA (c_R_at l D cI cZ 0 x1 ((nI 2) + x4) r90 h90) k_R_44 ⟨rfl, rfl, by decide, by decide⟩ hl hP hD hS [] [0, 1, 2, 3, 4, 5, 6, 7, 8, 9, 10, 11] [0, 1, 2, 3, 4, 5, 6, 7, 8, 9, 10, 11] rfl rfl rfl (by decide) rfl rfl rfl rfl rfl (Nat.le_of_ble_eq_true rfl) rfl d_R_write_90 (fun H locs hP hD hS => ?_)
    refine lv_iload hx hb d_R_write_93 (lv_at hl 0 rfl) ?_
    obtain ⟨hin, h⟩ := ga_some h
    refine va_iast hx hb hK hP hD hS 1 0 rfl rfl hin d_R_write_95 (fun H locs hP hD hS => ?_)
    have hP : va_P D clA (w_R cI cZ h_p0 h_p0_m h_p0_d h_p0_fresh h_p0_young h_p0_dropped h_p0_released h_p0_owed h_p0_counted h_p0_inMemory h_p0_onDisk h_p0_thn (upd mem_78 r90.toNatClampNeg r62) dsk fresh_78 young dropped released owed counted inMemory onDisk thn moved) H := hP
    have hD : va_D A (w_R cI cZ h_p0 h_p0_m h_p0_d h_p0_fresh h_p0_young h_p0_dropped h_p0_released h_p0_owed h_p0_counted h_p0_inMemory h_p0_onDisk h_p0_thn (upd mem_78 r90.toNatClampNeg r62) dsk fresh_78 young dropped released owed counted inMemory onDisk thn moved) := hD
    exact w_R_write_96 h_p0 h_p0_m h_p0_d h_p0_fresh h_p0_young h_p0_dropped h_p0_released h_p0_owed h_p0_counted h_p0_inMemory h_p0_onDisk h_p0_thn F young' dropped' mem' dsk' fresh' released' owed' counted' inMemory' onDisk' thn' moved' r ⟨cf, hr, hlk, hK, hN, hA⟩ x1 x2 x3 x4 young dropped (upd mem_78 r90.toNatClampNeg r62) dsk fresh_78 released owed counted inMemory onDisk thn moved h H locs ls (lv_sub hl [1, 2, 3, 4, 5] rfl) hP hD hS
  · rw [if_neg hc] at h
    refine lv_bipush (v := (-3)) hx hb d_R_write_72 (by decide) ?_
    cases h
    exact sc_iret cf hr hlk hK hP hD hS d_R_write_74
set_option maxHeartbeats 4000000 in
set_option maxRecDepth 100000 in
theorem c_R_write (l : Launch) (D : va_G) (cI cZ : ClassId) (h_p0 h_p0_m h_p0_d h_p0_fresh h_p0_young h_p0_dropped h_p0_released h_p0_owed h_p0_counted h_p0_inMemory h_p0_onDisk h_p0_thn : Nat) (F : Nat) (mem : (Nat → Int32)) (dsk : (Nat → Int32)) (fresh : (Nat → Int32)) (young : (Nat → Int32)) (dropped : (Nat → Int32)) (released : (Nat → Int32)) (owed : (Nat → Int32)) (counted : (Nat → Int32)) (inMemory : (Nat → Int32)) (onDisk : (Nat → Int32)) (thn : (Nat → Int32)) (moved : Int32) (young' : (Nat → Int32)) (dropped' : (Nat → Int32)) (mem' : (Nat → Int32)) (dsk' : (Nat → Int32)) (fresh' : (Nat → Int32)) (released' : (Nat → Int32)) (owed' : (Nat → Int32)) (counted' : (Nat → Int32)) (inMemory' : (Nat → Int32)) (onDisk' : (Nat → Int32)) (thn' : (Nat → Int32)) (moved' : Int32) (x1 : Int32) (x2 : Int32) (x3 : Int32) (r : Int32) (h : s_R_write F x1 x2 x3 young dropped mem dsk fresh released owed counted inMemory onDisk thn moved = some (r, young', dropped', mem', dsk', fresh', released', owed', counted', inMemory', onDisk', thn', moved')) : sc_i l y_R_write (o_R_write :: wA) rm_R_write D cI cZ [.ref h_p0, .int x1, .int x2, .int x3] (w_R cI cZ h_p0 h_p0_m h_p0_d h_p0_fresh h_p0_young h_p0_dropped h_p0_released h_p0_owed h_p0_counted h_p0_inMemory h_p0_onDisk h_p0_thn mem dsk fresh young dropped released owed counted inMemory onDisk thn moved) (w_R cI cZ h_p0 h_p0_m h_p0_d h_p0_fresh h_p0_young h_p0_dropped h_p0_released h_p0_owed h_p0_counted h_p0_inMemory h_p0_onDisk h_p0_thn (mem') (dsk') (fresh') (young') (dropped') (released') (owed') (counted') (inMemory') (onDisk') (thn') (moved')) r := by
  refine sc_i_of (cc := b_R_write) (maxL := 6) (ret := (some .int)) (by decide) rfl (Nat.le_of_ble_eq_true rfl) ?_
  intro p e s m below meth c A cf hr hlk hK hN hA H locs ls hl hP hD hS
  have hx := cf.1
  have hb := cf.2.1
  have hown := cf.2.2.2.1
  have ht : ∀ w ∈ wA, w.before _ s = true := fun w h => cf.2.2.2.2 w (List.mem_cons_of_mem _ h)
  unfold s_R_write at h
  have hl : lv_has ls 6 [(0, .ref h_p0), (1, .int x1), (2, .int x2), (3, .int x3)] := hl
  refine lv_iload_n hx hb d_R_write_0 rfl (lv_at hl 2 rfl) ?_
  refine lv_if_lt hx hb d_R_write_1 rfl (fun hc => ?_) (fun hc => ?_)
  · rw [if_pos hc] at h
    refine lv_iconst (v := (-1)) hx hb d_R_write_19 (by decide) ?_
    cases h
    exact sc_iret cf hr hlk hK hP hD hS d_R_write_20
  · rw [if_neg hc] at h
    refine lv_iload_n hx hb d_R_write_4 rfl (lv_at hl 2 rfl) ?_
    refine lv_bipush (v := (nI 23)) hx hb d_R_write_5 (by decide) ?_
    refine lv_icmp_gt hx hb d_R_write_7 rfl (fun hc => ?_) (fun hc => ?_)
    · rw [if_pos hc] at h
      refine lv_iconst (v := (-1)) hx hb d_R_write_19 (by decide) ?_
      cases h
      exact sc_iret cf hr hlk hK hP hD hS d_R_write_20
    · rw [if_neg hc] at h
      refine lv_aload_n hx hb d_R_write_10 rfl (lv_at hl 0 rfl) ?_
      refine lv_iload_n hx hb d_R_write_11 rfl (lv_at hl 1 rfl) ?_
      refine lv_iconst (v := (nI 1)) hx hb d_R_write_12 (by decide) ?_
      obtain ⟨⟨r13, inMemory_13⟩, h13, h⟩ := bd_some h
      dsimp only at h
      refine wk_Vi (As := [.int x1, .int (nI 1)]) (rest := []) (wc := (w_R cI cZ h_p0 h_p0_m h_p0_d h_p0_fresh h_p0_young h_p0_dropped h_p0_released h_p0_owed h_p0_counted h_p0_inMemory h_p0_onDisk h_p0_thn mem dsk fresh young dropped released owed counted inMemory onDisk thn moved)) (w1 := (w_R cI cZ h_p0 h_p0_m h_p0_d h_p0_fresh h_p0_young h_p0_dropped h_p0_released h_p0_owed h_p0_counted h_p0_inMemory h_p0_onDisk h_p0_thn mem dsk fresh young dropped released owed counted inMemory_13 onDisk thn moved)) (wr := []) (wz := (w_R cI cZ h_p0 h_p0_m h_p0_d h_p0_fresh h_p0_young h_p0_dropped h_p0_released h_p0_owed h_p0_counted h_p0_inMemory h_p0_onDisk h_p0_thn mem dsk fresh young dropped released owed counted inMemory_13 onDisk thn moved)) cf hK hN hA (c_R_holds l D cI cZ h_p0 h_p0_m h_p0_d h_p0_fresh h_p0_young h_p0_dropped h_p0_released h_p0_owed h_p0_counted h_p0_inMemory h_p0_onDisk h_p0_thn F mem dsk fresh young dropped released owed counted inMemory onDisk thn moved inMemory_13 x1 (nI 1) r13 h13) k_R_109 ⟨rfl, rfl, by decide, by decide⟩ 2 rfl rfl rfl hl hP hD hS [0, 1, 2, 3, 4, 5, 6, 7, 8, 9, 10, 11] [] [0, 1, 2, 3, 4, 5, 6, 7, 8, 9, 10, 11] rfl rfl rfl (by decide) rfl rfl rfl rfl rfl (Nat.le_of_ble_eq_true rfl) rfl d_R_write_13 (fun H locs hP hD hS => ?_)
      refine lv_if_ne hx hb d_R_write_16 rfl (fun hc => ?_) (fun hc => ?_)
      · rw [if_neg hc] at h
        refine lv_iload_n hx hb d_R_write_21 rfl (lv_at hl 2 rfl) ?_
        refine lv_bipush (v := (nI 8)) hx hb d_R_write_22 (by decide) ?_
        refine lv_idiv hx hb d_R_write_24 (by decide) ?_
        refine lv_istore (lv' := [(4, .int (x2 / (nI 8))), (0, .ref h_p0), (1, .int x1), (2, .int x2), (3, .int x3)]) hx hb d_R_write_25 hl (by decide) rfl (fun ls hl => ?_)
        refine lv_aload_n hx hb d_R_write_27 rfl (lv_at hl 1 rfl) ?_
        refine va_get (D := D) (ci := 2) (v := .ref h_p0_m) (C := R_R) (T := F_R) (N := 12) hx hb ht in_R hown hK hP 0 rfl rfl 0 (by decide) (ht _ f_R_7) (fun _ h9 => h9) rfl d_R_write_28 ?_
        refine lv_iload_n hx hb d_R_write_31 rfl (lv_at hl 2 rfl) ?_
        refine lv_iconst (v := (nI 2)) hx hb d_R_write_32 (by decide) ?_
        refine lv_iload hx hb d_R_write_33 (lv_at hl 0 rfl) ?_
        refine lv_iadd hx hb d_R_write_35 ?_
        obtain ⟨r36, h36, h⟩ := bd_some h
        refine wk_Si (As := [.int x1, .int ((nI 2) + (x2 / (nI 8)))]) (rest := [.ref h_p0_m]) (wc := []) (w1 := []) (wr := [(h_p0, .inr (2, [.ref h_p0_m, .ref h_p0_d, .ref h_p0_fresh, .ref h_p0_young, .ref h_p0_dropped, .ref h_p0_released, .ref h_p0_owed, .ref h_p0_counted, .ref h_p0_inMemory, .ref h_p0_onDisk, .ref h_p0_thn, .int moved])), (h_p0_m, .inl (cI, 1080, .inl mem)), (h_p0_d, .inl (cI, 1080, .inl dsk)), (h_p0_fresh, .inl (cZ, 36, .inl fresh)), (h_p0_young, .inl (cZ, 288, .inl young)), (h_p0_dropped, .inl (cI, 36, .inl dropped)), (h_p0_released, .inl (cZ, 18, .inl released)), (h_p0_owed, .inl (cI, 18, .inl owed)), (h_p0_counted, .inl (cI, 18, .inl counted)), (h_p0_inMemory, .inl (cZ, 18, .inl inMemory_13)), (h_p0_onDisk, .inl (cZ, 18, .inl onDisk)), (h_p0_thn, .inl (cZ, 18, .inl thn))]) (wz := (w_R cI cZ h_p0 h_p0_m h_p0_d h_p0_fresh h_p0_young h_p0_dropped h_p0_released h_p0_owed h_p0_counted h_p0_inMemory h_p0_onDisk h_p0_thn mem dsk fresh young dropped released owed counted inMemory_13 onDisk thn moved)) cf hK hN hA (c_R_at l D cI cZ 0 x1 ((nI 2) + (x2 / (nI 8))) r36 h36) k_R_44 ⟨rfl, rfl, by decide, by decide⟩ hl hP hD hS [] [0, 1, 2, 3, 4, 5, 6, 7, 8, 9, 10, 11] [0, 1, 2, 3, 4, 5, 6, 7, 8, 9, 10, 11] rfl rfl rfl (by decide) rfl rfl rfl rfl rfl (Nat.le_of_ble_eq_true rfl) rfl d_R_write_36 (fun H locs hP hD hS => ?_)
        obtain ⟨hin, h⟩ := gr_some h
        refine va_iald hx hb hK hP 1 0 rfl rfl hin d_R_write_39 ?_
        generalize mem r36.toNatClampNeg = v39 at h ⊢
        refine lv_if_ne hx hb d_R_write_40 rfl (fun hc => ?_) (fun hc => ?_)
        · rw [if_neg hc] at h
          exact w_R_write_96 h_p0 h_p0_m h_p0_d h_p0_fresh h_p0_young h_p0_dropped h_p0_released h_p0_owed h_p0_counted h_p0_inMemory h_p0_onDisk h_p0_thn F young' dropped' mem' dsk' fresh' released' owed' counted' inMemory' onDisk' thn' moved' r ⟨cf, hr, hlk, hK, hN, hA⟩ x1 x2 x3 (x2 / (nI 8)) young dropped mem dsk fresh released owed counted inMemory_13 onDisk thn moved h H locs ls (lv_sub hl [1, 2, 3, 4, 0] rfl) hP hD hS
        · rw [if_pos hc] at h
          refine lv_aload_n hx hb d_R_write_43 rfl (lv_at hl 1 rfl) ?_
          refine lv_iload_n hx hb d_R_write_44 rfl (lv_at hl 2 rfl) ?_
          refine lv_iload hx hb d_R_write_45 (lv_at hl 0 rfl) ?_
          obtain ⟨r47, h47, h⟩ := bd_some h
          refine wk_Vi (As := [.int x1, .int (x2 / (nI 8))]) (rest := []) (wc := (w_R cI cZ h_p0 h_p0_m h_p0_d h_p0_fresh h_p0_young h_p0_dropped h_p0_released h_p0_owed h_p0_counted h_p0_inMemory h_p0_onDisk h_p0_thn mem dsk fresh young dropped released owed counted inMemory_13 onDisk thn moved)) (w1 := (w_R cI cZ h_p0 h_p0_m h_p0_d h_p0_fresh h_p0_young h_p0_dropped h_p0_released h_p0_owed h_p0_counted h_p0_inMemory h_p0_onDisk h_p0_thn mem dsk fresh young dropped released owed counted inMemory_13 onDisk thn moved)) (wr := []) (wz := (w_R cI cZ h_p0 h_p0_m h_p0_d h_p0_fresh h_p0_young h_p0_dropped h_p0_released h_p0_owed h_p0_counted h_p0_inMemory h_p0_onDisk h_p0_thn mem dsk fresh young dropped released owed counted inMemory_13 onDisk thn moved)) cf hK hN hA (c_R_blockFor l D cI cZ h_p0 h_p0_m h_p0_d h_p0_fresh h_p0_young h_p0_dropped h_p0_released h_p0_owed h_p0_counted h_p0_inMemory h_p0_onDisk h_p0_thn F mem dsk fresh young dropped released owed counted inMemory_13 onDisk thn moved x1 (x2 / (nI 8)) r47 h47) k_R_145 ⟨rfl, rfl, by decide, by decide⟩ 2 rfl rfl rfl hl hP hD hS [0, 1, 2, 3, 4, 5, 6, 7, 8, 9, 10, 11] [] [0, 1, 2, 3, 4, 5, 6, 7, 8, 9, 10, 11] rfl rfl rfl (by decide) rfl rfl rfl rfl rfl (Nat.le_of_ble_eq_true rfl) rfl d_R_write_47 (fun H locs hP hD hS => ?_)
          refine lv_if_ge hx hb d_R_write_50 rfl (fun hc => ?_) (fun hc => ?_)
          · rw [if_pos hc] at h
            exact w_R_write_58 h_p0 h_p0_m h_p0_d h_p0_fresh h_p0_young h_p0_dropped h_p0_released h_p0_owed h_p0_counted h_p0_inMemory h_p0_onDisk h_p0_thn F young' dropped' mem' dsk' fresh' released' owed' counted' inMemory' onDisk' thn' moved' r ⟨cf, hr, hlk, hK, hN, hA⟩ x1 x2 x3 (x2 / (nI 8)) young dropped mem dsk fresh released owed counted inMemory_13 onDisk thn moved h H locs ls (lv_sub hl [1, 2, 3, 4, 0] rfl) hP hD hS
          · rw [if_neg hc] at h
            refine lv_aload_n hx hb d_R_write_53 rfl (lv_at hl 1 rfl) ?_
            obtain ⟨⟨r54, young_54, dropped_54, mem_54, dsk_54, fresh_54, released_54, owed_54, counted_54, inMemory_54, onDisk_54, thn_54, moved_54⟩, h54, h⟩ := bd_some h
            dsimp only at h
            refine wk_Vi (As := []) (rest := []) (wc := (w_R cI cZ h_p0 h_p0_m h_p0_d h_p0_fresh h_p0_young h_p0_dropped h_p0_released h_p0_owed h_p0_counted h_p0_inMemory h_p0_onDisk h_p0_thn mem dsk fresh young dropped released owed counted inMemory_13 onDisk thn moved)) (w1 := (w_R cI cZ h_p0 h_p0_m h_p0_d h_p0_fresh h_p0_young h_p0_dropped h_p0_released h_p0_owed h_p0_counted h_p0_inMemory h_p0_onDisk h_p0_thn mem_54 dsk_54 fresh_54 young_54 dropped_54 released_54 owed_54 counted_54 inMemory_54 onDisk_54 thn_54 moved_54)) (wr := []) (wz := (w_R cI cZ h_p0 h_p0_m h_p0_d h_p0_fresh h_p0_young h_p0_dropped h_p0_released h_p0_owed h_p0_counted h_p0_inMemory h_p0_onDisk h_p0_thn mem_54 dsk_54 fresh_54 young_54 dropped_54 released_54 owed_54 counted_54 inMemory_54 onDisk_54 thn_54 moved_54)) cf hK hN hA (c_R_sync l D cI cZ h_p0 h_p0_m h_p0_d h_p0_fresh h_p0_young h_p0_dropped h_p0_released h_p0_owed h_p0_counted h_p0_inMemory h_p0_onDisk h_p0_thn F mem dsk fresh young dropped released owed counted inMemory_13 onDisk thn moved young_54 dropped_54 mem_54 dsk_54 fresh_54 released_54 owed_54 counted_54 inMemory_54 onDisk_54 thn_54 moved_54 r54 h54) k_R_123 ⟨rfl, rfl, by decide, by decide⟩ 2 rfl rfl rfl hl hP hD hS [0, 1, 2, 3, 4, 5, 6, 7, 8, 9, 10, 11] [] [0, 1, 2, 3, 4, 5, 6, 7, 8, 9, 10, 11] rfl rfl rfl (by decide) rfl rfl rfl rfl rfl (Nat.le_of_ble_eq_true rfl) rfl d_R_write_54 (fun H locs hP hD hS => ?_)
            refine lv_pop hx hb d_R_write_57 rfl ?_
            exact w_R_write_58 h_p0 h_p0_m h_p0_d h_p0_fresh h_p0_young h_p0_dropped h_p0_released h_p0_owed h_p0_counted h_p0_inMemory h_p0_onDisk h_p0_thn F young' dropped' mem' dsk' fresh' released' owed' counted' inMemory' onDisk' thn' moved' r ⟨cf, hr, hlk, hK, hN, hA⟩ x1 x2 x3 (x2 / (nI 8)) young_54 dropped_54 mem_54 dsk_54 fresh_54 released_54 owed_54 counted_54 inMemory_54 onDisk_54 thn_54 moved_54 h H locs ls (lv_sub hl [1, 2, 3, 4, 0] rfl) hP hD hS
      · rw [if_pos hc] at h
        refine lv_iconst (v := (-1)) hx hb d_R_write_19 (by decide) ?_
        cases h
        exact sc_iret cf hr hlk hK hP hD hS d_R_write_20
