set_option maxHeartbeats 4000000 in
set_option maxRecDepth 100000 in
theorem w_R_below_then_2 {p : Program} {l : Launch} {e : Env} {s : State} {m : MethodId} {args : Array Value} {below : List Frame} {meth : Method} {c : Code} {D : va_G} {cI cZ : ClassId} {A : Nat → Prop} (h_p0 h_p0_m h_p0_d h_p0_fresh h_p0_young h_p0_dropped h_p0_released h_p0_owed h_p0_counted h_p0_inMemory h_p0_onDisk h_p0_thn : Nat) (F : Nat) (mem : (Nat → Int32)) (dsk : (Nat → Int32)) (fresh : (Nat → Int32)) (young : (Nat → Int32)) (dropped : (Nat → Int32)) (released : (Nat → Int32)) (owed : (Nat → Int32)) (counted : (Nat → Int32)) (inMemory : (Nat → Int32)) (onDisk : (Nat → Int32)) (moved : Int32) (thn' : (Nat → Int32)) (cx : cx_ok p s m args meth c b_R_below 5 o_R_below "OrderedVolumeModel" none D cI cZ A) : ∀ (n : Nat) (x1 : Int32) (x3 : Int32) (thn : (Nat → Int32)), s_R_below_then_2 F mem dsk fresh n x1 x3 thn = some thn' → wk_G p l e rm_R_below s m args below meth c (sc_Qv below args s D cI cZ A (w_R cI cZ h_p0 h_p0_m h_p0_d h_p0_fresh h_p0_young h_p0_dropped h_p0_released h_p0_owed h_p0_counted h_p0_inMemory h_p0_onDisk h_p0_thn mem dsk fresh young dropped released owed counted inMemory onDisk (thn') moved)) D A 5 2 [] [(0, .ref h_p0), (2, .ref h_p0_thn), (1, .int x1), (3, .int x3)] (w_R cI cZ h_p0 h_p0_m h_p0_d h_p0_fresh h_p0_young h_p0_dropped h_p0_released h_p0_owed h_p0_counted h_p0_inMemory h_p0_onDisk h_p0_thn mem dsk fresh young dropped released owed counted inMemory onDisk thn moved) := by
  obtain ⟨cf, hr, hlk, hK, hN, hA⟩ := cx
  have hx := cf.1
  have hb := cf.2.1
  have hown := cf.2.2.2.1
  have ht : ∀ w ∈ wA, w.before args s = true := fun w h => cf.2.2.2.2 w (List.mem_cons_of_mem _ h)
  intro n
  induction n with
  | zero => intro x1 x3 thn h; cases (show (none : Option ((Nat → Int32))) = some _ from h)
  | succ n ih =>
    intro x1 x3 thn h H locs ls hl hP hD hS
    unfold s_R_below_then_2 at h
    refine lv_iload_n hx hb d_R_below_2 rfl (lv_at hl 3 rfl) ?_
    refine lv_bipush (v := (nI 18)) hx hb d_R_below_3 (by decide) ?_
    refine lv_icmp_ge hx hb d_R_below_5 rfl (fun hc => ?_) (fun hc => ?_)
    · rw [if_pos hc] at h
      cases h
      exact sc_vret cf hr hlk hK hP hD hS d_R_below_45
    · rw [if_neg hc] at h
      refine lv_iconst (v := (nI 0)) hx hb d_R_below_8 (by decide) ?_
      refine lv_istore (lv' := [(4, .int (nI 0)), (0, .ref h_p0), (2, .ref h_p0_thn), (1, .int x1), (3, .int x3)]) hx hb d_R_below_9 hl (by decide) rfl (fun ls hl => ?_)
      exact w_R_below_then_11 h_p0 h_p0_m h_p0_d h_p0_fresh h_p0_young h_p0_dropped h_p0_released h_p0_owed h_p0_counted h_p0_inMemory h_p0_onDisk h_p0_thn F mem dsk fresh young dropped released owed counted inMemory onDisk moved thn' _ ⟨cf, hr, hlk, hK, hN, hA⟩ ih F x1 x3 (nI 0) thn h H locs ls (lv_sub hl [1, 2, 3, 4, 0] rfl) hP hD hS
set_option maxHeartbeats 4000000 in
set_option maxRecDepth 100000 in
theorem c_R_below_then (l : Launch) (D : va_G) (cI cZ : ClassId) (h_p0 h_p0_m h_p0_d h_p0_fresh h_p0_young h_p0_dropped h_p0_released h_p0_owed h_p0_counted h_p0_inMemory h_p0_onDisk h_p0_thn : Nat) (F : Nat) (mem : (Nat → Int32)) (dsk : (Nat → Int32)) (fresh : (Nat → Int32)) (young : (Nat → Int32)) (dropped : (Nat → Int32)) (released : (Nat → Int32)) (owed : (Nat → Int32)) (counted : (Nat → Int32)) (inMemory : (Nat → Int32)) (onDisk : (Nat → Int32)) (thn : (Nat → Int32)) (moved : Int32) (thn' : (Nat → Int32)) (x1 : Int32) (h : s_R_below_then F mem dsk fresh x1 thn = some thn') : sc_v l y_R_below (o_R_below :: wA) rm_R_below D cI cZ [.ref h_p0, .int x1, .ref h_p0_thn] (w_R cI cZ h_p0 h_p0_m h_p0_d h_p0_fresh h_p0_young h_p0_dropped h_p0_released h_p0_owed h_p0_counted h_p0_inMemory h_p0_onDisk h_p0_thn mem dsk fresh young dropped released owed counted inMemory onDisk thn moved) (w_R cI cZ h_p0 h_p0_m h_p0_d h_p0_fresh h_p0_young h_p0_dropped h_p0_released h_p0_owed h_p0_counted h_p0_inMemory h_p0_onDisk h_p0_thn mem dsk fresh young dropped released owed counted inMemory onDisk (thn') moved) := by
  refine sc_v_of (cc := b_R_below) (maxL := 5) (ret := none) (by decide) rfl (Nat.le_of_ble_eq_true rfl) ?_
  intro p e s m below meth c A cf hr hlk hK hN hA H locs ls hl hP hD hS
  have hx := cf.1
  have hb := cf.2.1
  have hown := cf.2.2.2.1
  have ht : ∀ w ∈ wA, w.before _ s = true := fun w h => cf.2.2.2.2 w (List.mem_cons_of_mem _ h)
  unfold s_R_below_then at h
  have hl : lv_has ls 5 [(0, .ref h_p0), (1, .int x1), (2, .ref h_p0_thn)] := hl
  refine lv_iconst (v := (nI 0)) hx hb d_R_below_0 (by decide) ?_
  refine lv_istore_n (lv' := [(3, .int (nI 0)), (0, .ref h_p0), (1, .int x1), (2, .ref h_p0_thn)]) hx hb d_R_below_1 rfl hl (by decide) rfl (fun ls hl => ?_)
  exact w_R_below_then_2 h_p0 h_p0_m h_p0_d h_p0_fresh h_p0_young h_p0_dropped h_p0_released h_p0_owed h_p0_counted h_p0_inMemory h_p0_onDisk h_p0_thn F mem dsk fresh young dropped released owed counted inMemory onDisk moved thn' ⟨cf, hr, hlk, hK, hN, hA⟩ F x1 (nI 0) thn h H locs ls (lv_sub hl [1, 3, 2, 0] rfl) hP hD hS
set_option maxHeartbeats 4000000 in
set_option maxRecDepth 100000 in
theorem w_R_tree_then_19 {p : Program} {l : Launch} {e : Env} {s : State} {m : MethodId} {args : Array Value} {below : List Frame} {meth : Method} {c : Code} {D : va_G} {cI cZ : ClassId} {A : Nat → Prop} (h_p0 h_p0_m h_p0_d h_p0_fresh h_p0_young h_p0_dropped h_p0_released h_p0_owed h_p0_counted h_p0_inMemory h_p0_onDisk h_p0_thn : Nat) (F : Nat) (mem : (Nat → Int32)) (dsk : (Nat → Int32)) (fresh : (Nat → Int32)) (young : (Nat → Int32)) (dropped : (Nat → Int32)) (released : (Nat → Int32)) (owed : (Nat → Int32)) (counted : (Nat → Int32)) (inMemory : (Nat → Int32)) (onDisk : (Nat → Int32)) (moved : Int32) (thn' : (Nat → Int32)) (k2 : Int32 → Int32 → (Nat → Int32) → Option ((Nat → Int32))) (cx : cx_ok p s m args meth c b_R_tree 4 o_R_tree "OrderedVolumeModel" none D cI cZ A) (h2 : (∀ (x1 : Int32) (x3 : Int32) (thn : (Nat → Int32)), k2 x1 x3 thn = some thn' → wk_G p l e rm_R_tree s m args below meth c (sc_Qv below args s D cI cZ A (w_R cI cZ h_p0 h_p0_m h_p0_d h_p0_fresh h_p0_young h_p0_dropped h_p0_released h_p0_owed h_p0_counted h_p0_inMemory h_p0_onDisk h_p0_thn mem dsk fresh young dropped released owed counted inMemory onDisk (thn') moved)) D A 4 2 [] [(0, .ref h_p0), (2, .ref h_p0_thn), (1, .int x1), (3, .int x3)] (w_R cI cZ h_p0 h_p0_m h_p0_d h_p0_fresh h_p0_young h_p0_dropped h_p0_released h_p0_owed h_p0_counted h_p0_inMemory h_p0_onDisk h_p0_thn mem dsk fresh young dropped released owed counted inMemory onDisk thn moved))) : ∀ (x1 : Int32) (x3 : Int32) (t1 : Int32) (t2 : Int32) (thn : (Nat → Int32)), s_R_tree_then_19 F mem dsk fresh k2 x1 x3 t1 t2 thn = some thn' → wk_G p l e rm_R_tree s m args below meth c (sc_Qv below args s D cI cZ A (w_R cI cZ h_p0 h_p0_m h_p0_d h_p0_fresh h_p0_young h_p0_dropped h_p0_released h_p0_owed h_p0_counted h_p0_inMemory h_p0_onDisk h_p0_thn mem dsk fresh young dropped released owed counted inMemory onDisk (thn') moved)) D A 4 19 [.int t2, .int t1, .ref h_p0_thn] [(0, .ref h_p0), (2, .ref h_p0_thn), (1, .int x1), (3, .int x3)] (w_R cI cZ h_p0 h_p0_m h_p0_d h_p0_fresh h_p0_young h_p0_dropped h_p0_released h_p0_owed h_p0_counted h_p0_inMemory h_p0_onDisk h_p0_thn mem dsk fresh young dropped released owed counted inMemory onDisk thn moved) := by
  obtain ⟨cf, hr, hlk, hK, hN, hA⟩ := cx
  have hx := cf.1
  have hb := cf.2.1
  have hown := cf.2.2.2.1
  have ht : ∀ w ∈ wA, w.before args s = true := fun w h => cf.2.2.2.2 w (List.mem_cons_of_mem _ h)
  intro x1 x3 t1 t2 thn h H locs ls hl hP hD hS
  unfold s_R_tree_then_19 at h
  obtain ⟨hin, h⟩ := ga_some h
  refine va_zast hx hb hK hP hD hS 11 1 rfl rfl hin d_R_tree_19 (fun H locs hP hD hS => ?_)
  have hP : va_P D clA (w_R cI cZ h_p0 h_p0_m h_p0_d h_p0_fresh h_p0_young h_p0_dropped h_p0_released h_p0_owed h_p0_counted h_p0_inMemory h_p0_onDisk h_p0_thn mem dsk fresh young dropped released owed counted inMemory onDisk (upd thn t1.toNatClampNeg (vp_nar .boolean t2)) moved) H := hP
  have hD : va_D A (w_R cI cZ h_p0 h_p0_m h_p0_d h_p0_fresh h_p0_young h_p0_dropped h_p0_released h_p0_owed h_p0_counted h_p0_inMemory h_p0_onDisk h_p0_thn mem dsk fresh young dropped released owed counted inMemory onDisk (upd thn t1.toNatClampNeg (vp_nar .boolean t2)) moved) := hD
  refine lv_iinc (k := 3) (v := (x3 + (nI 1))) (lv' := [(3, .int (x3 + (nI 1))), (0, .ref h_p0), (2, .ref h_p0_thn), (1, .int x1)]) hx hb d_R_tree_20 hl rfl rfl (by decide) rfl (fun ls hl => ?_)
  refine lv_goto hx hb d_R_tree_23 rfl ?_
  exact h2 x1 (x3 + (nI 1)) (upd thn t1.toNatClampNeg (vp_nar .boolean t2)) h H locs ls (lv_sub hl [1, 2, 3, 0] rfl) hP hD hS
set_option maxHeartbeats 4000000 in
set_option maxRecDepth 100000 in
theorem w_R_tree_then_2 {p : Program} {l : Launch} {e : Env} {s : State} {m : MethodId} {args : Array Value} {below : List Frame} {meth : Method} {c : Code} {D : va_G} {cI cZ : ClassId} {A : Nat → Prop} (h_p0 h_p0_m h_p0_d h_p0_fresh h_p0_young h_p0_dropped h_p0_released h_p0_owed h_p0_counted h_p0_inMemory h_p0_onDisk h_p0_thn : Nat) (F : Nat) (mem : (Nat → Int32)) (dsk : (Nat → Int32)) (fresh : (Nat → Int32)) (young : (Nat → Int32)) (dropped : (Nat → Int32)) (released : (Nat → Int32)) (owed : (Nat → Int32)) (counted : (Nat → Int32)) (inMemory : (Nat → Int32)) (onDisk : (Nat → Int32)) (moved : Int32) (thn' : (Nat → Int32)) (cx : cx_ok p s m args meth c b_R_tree 4 o_R_tree "OrderedVolumeModel" none D cI cZ A) : ∀ (n : Nat) (x1 : Int32) (x3 : Int32) (thn : (Nat → Int32)), s_R_tree_then_2 F mem dsk fresh n x1 x3 thn = some thn' → wk_G p l e rm_R_tree s m args below meth c (sc_Qv below args s D cI cZ A (w_R cI cZ h_p0 h_p0_m h_p0_d h_p0_fresh h_p0_young h_p0_dropped h_p0_released h_p0_owed h_p0_counted h_p0_inMemory h_p0_onDisk h_p0_thn mem dsk fresh young dropped released owed counted inMemory onDisk (thn') moved)) D A 4 2 [] [(0, .ref h_p0), (2, .ref h_p0_thn), (1, .int x1), (3, .int x3)] (w_R cI cZ h_p0 h_p0_m h_p0_d h_p0_fresh h_p0_young h_p0_dropped h_p0_released h_p0_owed h_p0_counted h_p0_inMemory h_p0_onDisk h_p0_thn mem dsk fresh young dropped released owed counted inMemory onDisk thn moved) := by
  obtain ⟨cf, hr, hlk, hK, hN, hA⟩ := cx
  have hx := cf.1
  have hb := cf.2.1
  have hown := cf.2.2.2.1
  have ht : ∀ w ∈ wA, w.before args s = true := fun w h => cf.2.2.2.2 w (List.mem_cons_of_mem _ h)
  intro n
  induction n with
  | zero => intro x1 x3 thn h; cases (show (none : Option ((Nat → Int32))) = some _ from h)
  | succ n ih =>
    intro x1 x3 thn h H locs ls hl hP hD hS
    unfold s_R_tree_then_2 at h
    refine lv_iload_n hx hb d_R_tree_2 rfl (lv_at hl 3 rfl) ?_
    refine lv_bipush (v := (nI 18)) hx hb d_R_tree_3 (by decide) ?_
    refine lv_icmp_ge hx hb d_R_tree_5 rfl (fun hc => ?_) (fun hc => ?_)
    · rw [if_pos hc] at h
      refine lv_aload_n hx hb d_R_tree_26 rfl (lv_at hl 0 rfl) ?_
      refine lv_iload_n hx hb d_R_tree_27 rfl (lv_at hl 2 rfl) ?_
      refine lv_aload_n hx hb d_R_tree_28 rfl (lv_at hl 1 rfl) ?_
      obtain ⟨thn_29, h29, h⟩ := bd_some h
      refine wk_Vv (As := [.int x1, .ref h_p0_thn]) (rest := []) (wc := (w_R cI cZ h_p0 h_p0_m h_p0_d h_p0_fresh h_p0_young h_p0_dropped h_p0_released h_p0_owed h_p0_counted h_p0_inMemory h_p0_onDisk h_p0_thn mem dsk fresh young dropped released owed counted inMemory onDisk thn moved)) (w1 := (w_R cI cZ h_p0 h_p0_m h_p0_d h_p0_fresh h_p0_young h_p0_dropped h_p0_released h_p0_owed h_p0_counted h_p0_inMemory h_p0_onDisk h_p0_thn mem dsk fresh young dropped released owed counted inMemory onDisk thn_29 moved)) (wr := []) (wz := (w_R cI cZ h_p0 h_p0_m h_p0_d h_p0_fresh h_p0_young h_p0_dropped h_p0_released h_p0_owed h_p0_counted h_p0_inMemory h_p0_onDisk h_p0_thn mem dsk fresh young dropped released owed counted inMemory onDisk thn_29 moved)) cf hK hN hA (c_R_below_then l D cI cZ h_p0 h_p0_m h_p0_d h_p0_fresh h_p0_young h_p0_dropped h_p0_released h_p0_owed h_p0_counted h_p0_inMemory h_p0_onDisk h_p0_thn F mem dsk fresh young dropped released owed counted inMemory onDisk thn moved thn_29 x1 h29) k_R_58 ⟨rfl, rfl, by decide, by decide⟩ 2 rfl rfl rfl hl hP hD hS [0, 1, 2, 3, 4, 5, 6, 7, 8, 9, 10, 11] [] [0, 1, 2, 3, 4, 5, 6, 7, 8, 9, 10, 11] rfl rfl rfl (by decide) rfl rfl rfl rfl rfl (Nat.le_of_ble_eq_true rfl) rfl d_R_tree_29 (fun H locs hP hD hS => ?_)
      cases h
      exact sc_vret cf hr hlk hK hP hD hS d_R_tree_32
    · rw [if_neg hc] at h
      refine lv_aload_n hx hb d_R_tree_8 rfl (lv_at hl 1 rfl) ?_
      refine lv_iload_n hx hb d_R_tree_9 rfl (lv_at hl 3 rfl) ?_
      refine lv_iload_n hx hb d_R_tree_10 rfl (lv_at hl 3 rfl) ?_
      refine lv_if_ne hx hb d_R_tree_11 rfl (fun hc => ?_) (fun hc => ?_)
      · rw [if_neg hc] at h
        refine lv_iconst (v := (nI 0)) hx hb d_R_tree_18 (by decide) ?_
        exact w_R_tree_then_19 h_p0 h_p0_m h_p0_d h_p0_fresh h_p0_young h_p0_dropped h_p0_released h_p0_owed h_p0_counted h_p0_inMemory h_p0_onDisk h_p0_thn F mem dsk fresh young dropped released owed counted inMemory onDisk moved thn' _ ⟨cf, hr, hlk, hK, hN, hA⟩ ih x1 x3 x3 (nI 0) thn h H locs ls (lv_sub hl [0, 1, 2, 3] rfl) hP hD hS
      · rw [if_pos hc] at h
        refine lv_iconst (v := (nI 1)) hx hb d_R_tree_14 (by decide) ?_
        refine lv_goto hx hb d_R_tree_15 rfl ?_
        exact w_R_tree_then_19 h_p0 h_p0_m h_p0_d h_p0_fresh h_p0_young h_p0_dropped h_p0_released h_p0_owed h_p0_counted h_p0_inMemory h_p0_onDisk h_p0_thn F mem dsk fresh young dropped released owed counted inMemory onDisk moved thn' _ ⟨cf, hr, hlk, hK, hN, hA⟩ ih x1 x3 x3 (nI 1) thn h H locs ls (lv_sub hl [0, 1, 2, 3] rfl) hP hD hS
set_option maxHeartbeats 4000000 in
set_option maxRecDepth 100000 in
theorem c_R_tree_then (l : Launch) (D : va_G) (cI cZ : ClassId) (h_p0 h_p0_m h_p0_d h_p0_fresh h_p0_young h_p0_dropped h_p0_released h_p0_owed h_p0_counted h_p0_inMemory h_p0_onDisk h_p0_thn : Nat) (F : Nat) (mem : (Nat → Int32)) (dsk : (Nat → Int32)) (fresh : (Nat → Int32)) (young : (Nat → Int32)) (dropped : (Nat → Int32)) (released : (Nat → Int32)) (owed : (Nat → Int32)) (counted : (Nat → Int32)) (inMemory : (Nat → Int32)) (onDisk : (Nat → Int32)) (thn : (Nat → Int32)) (moved : Int32) (thn' : (Nat → Int32)) (x1 : Int32) (h : s_R_tree_then F mem dsk fresh x1 thn = some thn') : sc_v l y_R_tree (o_R_tree :: wA) rm_R_tree D cI cZ [.ref h_p0, .int x1, .ref h_p0_thn] (w_R cI cZ h_p0 h_p0_m h_p0_d h_p0_fresh h_p0_young h_p0_dropped h_p0_released h_p0_owed h_p0_counted h_p0_inMemory h_p0_onDisk h_p0_thn mem dsk fresh young dropped released owed counted inMemory onDisk thn moved) (w_R cI cZ h_p0 h_p0_m h_p0_d h_p0_fresh h_p0_young h_p0_dropped h_p0_released h_p0_owed h_p0_counted h_p0_inMemory h_p0_onDisk h_p0_thn mem dsk fresh young dropped released owed counted inMemory onDisk (thn') moved) := by
  refine sc_v_of (cc := b_R_tree) (maxL := 4) (ret := none) (by decide) rfl (Nat.le_of_ble_eq_true rfl) ?_
  intro p e s m below meth c A cf hr hlk hK hN hA H locs ls hl hP hD hS
  have hx := cf.1
  have hb := cf.2.1
  have hown := cf.2.2.2.1
  have ht : ∀ w ∈ wA, w.before _ s = true := fun w h => cf.2.2.2.2 w (List.mem_cons_of_mem _ h)
  unfold s_R_tree_then at h
  have hl : lv_has ls 4 [(0, .ref h_p0), (1, .int x1), (2, .ref h_p0_thn)] := hl
  refine lv_iconst (v := (nI 0)) hx hb d_R_tree_0 (by decide) ?_
  refine lv_istore_n (lv' := [(3, .int (nI 0)), (0, .ref h_p0), (1, .int x1), (2, .ref h_p0_thn)]) hx hb d_R_tree_1 rfl hl (by decide) rfl (fun ls hl => ?_)
  exact w_R_tree_then_2 h_p0 h_p0_m h_p0_d h_p0_fresh h_p0_young h_p0_dropped h_p0_released h_p0_owed h_p0_counted h_p0_inMemory h_p0_onDisk h_p0_thn F mem dsk fresh young dropped released owed counted inMemory onDisk moved thn' ⟨cf, hr, hlk, hK, hN, hA⟩ F x1 (nI 0) thn h H locs ls (lv_sub hl [1, 3, 2, 0] rfl) hP hD hS
set_option maxHeartbeats 4000000 in
set_option maxRecDepth 100000 in
theorem w_R_loses_66 {p : Program} {l : Launch} {e : Env} {s : State} {m : MethodId} {args : Array Value} {below : List Frame} {meth : Method} {c : Code} {D : va_G} {cI cZ : ClassId} {A : Nat → Prop} (h_p0 h_p0_m h_p0_d h_p0_fresh h_p0_young h_p0_dropped h_p0_released h_p0_owed h_p0_counted h_p0_inMemory h_p0_onDisk h_p0_thn : Nat) (F : Nat) (mem : (Nat → Int32)) (fresh : (Nat → Int32)) (young : (Nat → Int32)) (dropped : (Nat → Int32)) (released : (Nat → Int32)) (owed : (Nat → Int32)) (counted : (Nat → Int32)) (moved : Int32) (dsk' : (Nat → Int32)) (inMemory' : (Nat → Int32)) (onDisk' : (Nat → Int32)) (thn' : (Nat → Int32)) (r : Int32) (cx : cx_ok p s m args meth c b_R_loses 5 o_R_loses "OrderedVolumeModel" (some .boolean) D cI cZ A) : ∀ (n : Nat) (x4 : Int32) (dsk : (Nat → Int32)) (inMemory : (Nat → Int32)) (onDisk : (Nat → Int32)) (thn : (Nat → Int32)), s_R_loses_66 F mem fresh n x4 dsk inMemory onDisk thn = some (r, dsk', inMemory', onDisk', thn') → wk_G p l e rm_R_loses s m args below meth c (sc_Qi below args s D cI cZ A (w_R cI cZ h_p0 h_p0_m h_p0_d h_p0_fresh h_p0_young h_p0_dropped h_p0_released h_p0_owed h_p0_counted h_p0_inMemory h_p0_onDisk h_p0_thn mem (dsk') fresh young dropped released owed counted (inMemory') (onDisk') (thn') moved) r) D A 5 66 [] [(0, .ref h_p0), (4, .int x4)] (w_R cI cZ h_p0 h_p0_m h_p0_d h_p0_fresh h_p0_young h_p0_dropped h_p0_released h_p0_owed h_p0_counted h_p0_inMemory h_p0_onDisk h_p0_thn mem dsk fresh young dropped released owed counted inMemory onDisk thn moved) := by
  obtain ⟨cf, hr, hlk, hK, hN, hA⟩ := cx
  have hx := cf.1
  have hb := cf.2.1
  have hown := cf.2.2.2.1
  have ht : ∀ w ∈ wA, w.before args s = true := fun w h => cf.2.2.2.2 w (List.mem_cons_of_mem _ h)
  intro n
  induction n with
  | zero => intro x4 dsk inMemory onDisk thn h; cases (show (none : Option (Int32 × (Nat → Int32) × (Nat → Int32) × (Nat → Int32) × (Nat → Int32))) = some _ from h)
  | succ n ih =>
    intro x4 dsk inMemory onDisk thn h H locs ls hl hP hD hS
    unfold s_R_loses_66 at h
    refine lv_iload hx hb d_R_loses_66 (lv_at hl 1 rfl) ?_
    refine lv_bipush (v := (nI 18)) hx hb d_R_loses_68 (by decide) ?_
    refine lv_icmp_ge hx hb d_R_loses_70 rfl (fun hc => ?_) (fun hc => ?_)
    · rw [if_pos hc] at h
      refine lv_iconst (v := (nI 0)) hx hb d_R_loses_111 (by decide) ?_
      have hz : ((nI 0) : Int32) = 0 ∨ ((nI 0) : Int32) = 1 := by decide
      cases h
      exact sc_zret cf hr hlk hz hK hP hD hS d_R_loses_112
    · rw [if_neg hc] at h
      refine lv_aload_n hx hb d_R_loses_73 rfl (lv_at hl 0 rfl) ?_
      refine va_get (D := D) (ci := 2) (v := .ref h_p0_inMemory) (C := R_R) (T := F_R) (N := 12) hx hb ht in_R hown hK hP 0 rfl rfl 8 (by decide) (ht _ f_R_35) (fun _ h9 => h9) rfl d_R_loses_74 ?_
      refine lv_iload hx hb d_R_loses_77 (lv_at hl 1 rfl) ?_
      obtain ⟨hin, h⟩ := gr_some h
      refine va_zald hx hb hK hP 9 1 rfl rfl hin d_R_loses_79 ?_
      generalize inMemory x4.toNatClampNeg = v79 at h ⊢
      refine lv_if_eq hx hb d_R_loses_80 rfl (fun hc => ?_) (fun hc => ?_)
      · rw [if_pos hc] at h
        refine lv_iinc (k := 1) (v := (x4 + (nI 1))) (lv' := [(4, .int (x4 + (nI 1))), (0, .ref h_p0)]) hx hb d_R_loses_105 hl rfl rfl (by decide) rfl (fun ls hl => ?_)
        refine lv_goto hx hb d_R_loses_108 rfl ?_
        exact ih (x4 + (nI 1)) dsk inMemory onDisk thn h H locs ls (lv_sub hl [1, 0] rfl) hP hD hS
      · rw [if_neg hc] at h
        refine lv_aload_n hx hb d_R_loses_83 rfl (lv_at hl 0 rfl) ?_
        refine va_get (D := D) (ci := 2) (v := .ref h_p0_onDisk) (C := R_R) (T := F_R) (N := 12) hx hb ht in_R hown hK hP 0 rfl rfl 9 (by decide) (ht _ f_R_38) (fun _ h9 => h9) rfl d_R_loses_84 ?_
        refine lv_iload hx hb d_R_loses_87 (lv_at hl 1 rfl) ?_
        obtain ⟨hin, h⟩ := gr_some h
        refine va_zald hx hb hK hP 10 1 rfl rfl hin d_R_loses_89 ?_
        generalize onDisk x4.toNatClampNeg = v89 at h ⊢
        refine lv_if_eq hx hb d_R_loses_90 rfl (fun hc => ?_) (fun hc => ?_)
        · rw [if_pos hc] at h
          refine lv_iinc (k := 1) (v := (x4 + (nI 1))) (lv' := [(4, .int (x4 + (nI 1))), (0, .ref h_p0)]) hx hb d_R_loses_105 hl rfl rfl (by decide) rfl (fun ls hl => ?_)
          refine lv_goto hx hb d_R_loses_108 rfl ?_
          exact ih (x4 + (nI 1)) dsk inMemory onDisk thn h H locs ls (lv_sub hl [1, 0] rfl) hP hD hS
        · rw [if_neg hc] at h
          refine lv_aload_n hx hb d_R_loses_93 rfl (lv_at hl 0 rfl) ?_
          refine va_get (D := D) (ci := 2) (v := .ref h_p0_thn) (C := R_R) (T := F_R) (N := 12) hx hb ht in_R hown hK hP 0 rfl rfl 10 (by decide) (ht _ f_R_41) (fun _ h9 => h9) rfl d_R_loses_94 ?_
          refine lv_iload hx hb d_R_loses_97 (lv_at hl 1 rfl) ?_
          obtain ⟨hin, h⟩ := gr_some h
          refine va_zald hx hb hK hP 11 1 rfl rfl hin d_R_loses_99 ?_
          generalize thn x4.toNatClampNeg = v99 at h ⊢
          refine lv_if_ne hx hb d_R_loses_100 rfl (fun hc => ?_) (fun hc => ?_)
          · rw [if_neg hc] at h
            refine lv_iinc (k := 1) (v := (x4 + (nI 1))) (lv' := [(4, .int (x4 + (nI 1))), (0, .ref h_p0)]) hx hb d_R_loses_105 hl rfl rfl (by decide) rfl (fun ls hl => ?_)
            refine lv_goto hx hb d_R_loses_108 rfl ?_
            exact ih (x4 + (nI 1)) dsk inMemory onDisk thn h H locs ls (lv_sub hl [1, 0] rfl) hP hD hS
          · rw [if_pos hc] at h
            refine lv_iconst (v := (nI 1)) hx hb d_R_loses_103 (by decide) ?_
            have hz : ((nI 1) : Int32) = 0 ∨ ((nI 1) : Int32) = 1 := by decide
            cases h
            exact sc_zret cf hr hlk hz hK hP hD hS d_R_loses_104
set_option maxHeartbeats 4000000 in
set_option maxRecDepth 100000 in
theorem c_R_loses (l : Launch) (D : va_G) (cI cZ : ClassId) (h_p0 h_p0_m h_p0_d h_p0_fresh h_p0_young h_p0_dropped h_p0_released h_p0_owed h_p0_counted h_p0_inMemory h_p0_onDisk h_p0_thn : Nat) (F : Nat) (mem : (Nat → Int32)) (dsk : (Nat → Int32)) (fresh : (Nat → Int32)) (young : (Nat → Int32)) (dropped : (Nat → Int32)) (released : (Nat → Int32)) (owed : (Nat → Int32)) (counted : (Nat → Int32)) (inMemory : (Nat → Int32)) (onDisk : (Nat → Int32)) (thn : (Nat → Int32)) (moved : Int32) (dsk' : (Nat → Int32)) (inMemory' : (Nat → Int32)) (onDisk' : (Nat → Int32)) (thn' : (Nat → Int32)) (x1 : Int32) (x2 : Int32) (r : Int32) (h : s_R_loses F mem fresh x1 x2 dsk inMemory onDisk thn = some (r, dsk', inMemory', onDisk', thn')) : sc_i l y_R_loses (o_R_loses :: wA) rm_R_loses D cI cZ [.ref h_p0, .int x1, .int x2] (w_R cI cZ h_p0 h_p0_m h_p0_d h_p0_fresh h_p0_young h_p0_dropped h_p0_released h_p0_owed h_p0_counted h_p0_inMemory h_p0_onDisk h_p0_thn mem dsk fresh young dropped released owed counted inMemory onDisk thn moved) (w_R cI cZ h_p0 h_p0_m h_p0_d h_p0_fresh h_p0_young h_p0_dropped h_p0_released h_p0_owed h_p0_counted h_p0_inMemory h_p0_onDisk h_p0_thn mem (dsk') fresh young dropped released owed counted (inMemory') (onDisk') (thn') moved) r := by
  refine sc_i_of (cc := b_R_loses) (maxL := 5) (ret := (some .boolean)) (by decide) rfl (Nat.le_of_ble_eq_true rfl) ?_
  intro p e s m below meth c A cf hr hlk hK hN hA H locs ls hl hP hD hS
  have hx := cf.1
  have hb := cf.2.1
  have hown := cf.2.2.2.1
  have ht : ∀ w ∈ wA, w.before _ s = true := fun w h => cf.2.2.2.2 w (List.mem_cons_of_mem _ h)
  unfold s_R_loses at h
  have hl : lv_has ls 5 [(0, .ref h_p0), (1, .int x1), (2, .int x2)] := hl
  refine lv_aload_n hx hb d_R_loses_0 rfl (lv_at hl 0 rfl) ?_
  refine lv_iconst (v := (nI 0)) hx hb d_R_loses_1 (by decide) ?_
  refine lv_aload_n hx hb d_R_loses_2 rfl (lv_at hl 0 rfl) ?_
  refine va_get (D := D) (ci := 2) (v := .ref h_p0_inMemory) (C := R_R) (T := F_R) (N := 12) hx hb ht in_R hown hK hP 0 rfl rfl 8 (by decide) (ht _ f_R_35) (fun _ h9 => h9) rfl d_R_loses_3 ?_
  obtain ⟨inMemory_6, h6, h⟩ := bd_some h
  refine wk_Vv (As := [.int (nI 0), .ref h_p0_inMemory]) (rest := []) (wc := (w_R cI cZ h_p0 h_p0_m h_p0_d h_p0_fresh h_p0_young h_p0_dropped h_p0_released h_p0_owed h_p0_counted h_p0_inMemory h_p0_onDisk h_p0_thn mem dsk fresh young dropped released owed counted inMemory onDisk thn moved)) (w1 := (w_R cI cZ h_p0 h_p0_m h_p0_d h_p0_fresh h_p0_young h_p0_dropped h_p0_released h_p0_owed h_p0_counted h_p0_inMemory h_p0_onDisk h_p0_thn mem dsk fresh young dropped released owed counted inMemory_6 onDisk thn moved)) (wr := []) (wz := (w_R cI cZ h_p0 h_p0_m h_p0_d h_p0_fresh h_p0_young h_p0_dropped h_p0_released h_p0_owed h_p0_counted h_p0_inMemory h_p0_onDisk h_p0_thn mem dsk fresh young dropped released owed counted inMemory_6 onDisk thn moved)) cf hK hN hA (c_R_tree_inMemory l D cI cZ h_p0 h_p0_m h_p0_d h_p0_fresh h_p0_young h_p0_dropped h_p0_released h_p0_owed h_p0_counted h_p0_inMemory h_p0_onDisk h_p0_thn F mem dsk fresh young dropped released owed counted inMemory onDisk thn moved inMemory_6 (nI 0) h6) k_R_69 ⟨rfl, rfl, by decide, by decide⟩ 2 rfl rfl rfl hl hP hD hS [0, 1, 2, 3, 4, 5, 6, 7, 8, 9, 10, 11] [] [0, 1, 2, 3, 4, 5, 6, 7, 8, 9, 10, 11] rfl rfl rfl (by decide) rfl rfl rfl rfl rfl (Nat.le_of_ble_eq_true rfl) rfl d_R_loses_6 (fun H locs hP hD hS => ?_)
  refine lv_aload_n hx hb d_R_loses_9 rfl (lv_at hl 0 rfl) ?_
  refine lv_iconst (v := (nI 1)) hx hb d_R_loses_10 (by decide) ?_
  refine lv_aload_n hx hb d_R_loses_11 rfl (lv_at hl 0 rfl) ?_
  refine va_get (D := D) (ci := 2) (v := .ref h_p0_onDisk) (C := R_R) (T := F_R) (N := 12) hx hb ht in_R hown hK hP 0 rfl rfl 9 (by decide) (ht _ f_R_38) (fun _ h9 => h9) rfl d_R_loses_12 ?_
  obtain ⟨onDisk_15, h15, h⟩ := bd_some h
  refine wk_Vv (As := [.int (nI 1), .ref h_p0_onDisk]) (rest := []) (wc := (w_R cI cZ h_p0 h_p0_m h_p0_d h_p0_fresh h_p0_young h_p0_dropped h_p0_released h_p0_owed h_p0_counted h_p0_inMemory h_p0_onDisk h_p0_thn mem dsk fresh young dropped released owed counted inMemory_6 onDisk thn moved)) (w1 := (w_R cI cZ h_p0 h_p0_m h_p0_d h_p0_fresh h_p0_young h_p0_dropped h_p0_released h_p0_owed h_p0_counted h_p0_inMemory h_p0_onDisk h_p0_thn mem dsk fresh young dropped released owed counted inMemory_6 onDisk_15 thn moved)) (wr := []) (wz := (w_R cI cZ h_p0 h_p0_m h_p0_d h_p0_fresh h_p0_young h_p0_dropped h_p0_released h_p0_owed h_p0_counted h_p0_inMemory h_p0_onDisk h_p0_thn mem dsk fresh young dropped released owed counted inMemory_6 onDisk_15 thn moved)) cf hK hN hA (c_R_tree_onDisk l D cI cZ h_p0 h_p0_m h_p0_d h_p0_fresh h_p0_young h_p0_dropped h_p0_released h_p0_owed h_p0_counted h_p0_inMemory h_p0_onDisk h_p0_thn F mem dsk fresh young dropped released owed counted inMemory_6 onDisk thn moved onDisk_15 (nI 1) h15) k_R_69 ⟨rfl, rfl, by decide, by decide⟩ 2 rfl rfl rfl hl hP hD hS [0, 1, 2, 3, 4, 5, 6, 7, 8, 9, 10, 11] [] [0, 1, 2, 3, 4, 5, 6, 7, 8, 9, 10, 11] rfl rfl rfl (by decide) rfl rfl rfl rfl rfl (Nat.le_of_ble_eq_true rfl) rfl d_R_loses_15 (fun H locs hP hD hS => ?_)
  refine lv_aload_n hx hb d_R_loses_18 rfl (lv_at hl 0 rfl) ?_
  refine va_get (D := D) (ci := 2) (v := .ref h_p0_d) (C := R_R) (T := F_R) (N := 12) hx hb ht in_R hown hK hP 0 rfl rfl 1 (by decide) (ht _ f_R_13) (fun _ h9 => h9) rfl d_R_loses_19 ?_
  refine lv_bipush (v := (nI 30)) hx hb d_R_loses_22 (by decide) ?_
  refine lv_iload_n hx hb d_R_loses_24 rfl (lv_at hl 1 rfl) ?_
  refine lv_imul hx hb d_R_loses_25 ?_
  refine lv_iload_n hx hb d_R_loses_26 rfl (lv_at hl 2 rfl) ?_
  refine lv_iadd hx hb d_R_loses_27 ?_
  obtain ⟨hin, h⟩ := gr_some h
  refine va_iald hx hb hK hP 2 0 rfl rfl hin d_R_loses_28 ?_
  generalize dsk (((nI 30) * x1) + x2).toNatClampNeg = v28 at h ⊢
  refine lv_istore_n (lv' := [(3, .int v28), (0, .ref h_p0), (1, .int x1), (2, .int x2)]) hx hb d_R_loses_29 rfl hl (by decide) rfl (fun ls hl => ?_)
  refine lv_aload_n hx hb d_R_loses_30 rfl (lv_at hl 1 rfl) ?_
  refine va_get (D := D) (ci := 2) (v := .ref h_p0_d) (C := R_R) (T := F_R) (N := 12) hx hb ht in_R hown hK hP 0 rfl rfl 1 (by decide) (ht _ f_R_13) (fun _ h9 => h9) rfl d_R_loses_31 ?_
  refine lv_bipush (v := (nI 30)) hx hb d_R_loses_34 (by decide) ?_
  refine lv_iload_n hx hb d_R_loses_36 rfl (lv_at hl 2 rfl) ?_
  refine lv_imul hx hb d_R_loses_37 ?_
  refine lv_iload_n hx hb d_R_loses_38 rfl (lv_at hl 3 rfl) ?_
  refine lv_iadd hx hb d_R_loses_39 ?_
  refine lv_iconst (v := (nI 0)) hx hb d_R_loses_40 (by decide) ?_
  obtain ⟨hin, h⟩ := ga_some h
  refine va_iast hx hb hK hP hD hS 2 0 rfl rfl hin d_R_loses_41 (fun H locs hP hD hS => ?_)
  have hP : va_P D clA (w_R cI cZ h_p0 h_p0_m h_p0_d h_p0_fresh h_p0_young h_p0_dropped h_p0_released h_p0_owed h_p0_counted h_p0_inMemory h_p0_onDisk h_p0_thn mem (upd dsk (((nI 30) * x1) + x2).toNatClampNeg (nI 0)) fresh young dropped released owed counted inMemory_6 onDisk_15 thn moved) H := hP
  have hD : va_D A (w_R cI cZ h_p0 h_p0_m h_p0_d h_p0_fresh h_p0_young h_p0_dropped h_p0_released h_p0_owed h_p0_counted h_p0_inMemory h_p0_onDisk h_p0_thn mem (upd dsk (((nI 30) * x1) + x2).toNatClampNeg (nI 0)) fresh young dropped released owed counted inMemory_6 onDisk_15 thn moved) := hD
  refine lv_aload_n hx hb d_R_loses_42 rfl (lv_at hl 1 rfl) ?_
  refine lv_iconst (v := (nI 1)) hx hb d_R_loses_43 (by decide) ?_
  refine lv_aload_n hx hb d_R_loses_44 rfl (lv_at hl 1 rfl) ?_
  refine va_get (D := D) (ci := 2) (v := .ref h_p0_thn) (C := R_R) (T := F_R) (N := 12) hx hb ht in_R hown hK hP 0 rfl rfl 10 (by decide) (ht _ f_R_41) (fun _ h9 => h9) rfl d_R_loses_45 ?_
  obtain ⟨thn_48, h48, h⟩ := bd_some h
  refine wk_Vv (As := [.int (nI 1), .ref h_p0_thn]) (rest := []) (wc := (w_R cI cZ h_p0 h_p0_m h_p0_d h_p0_fresh h_p0_young h_p0_dropped h_p0_released h_p0_owed h_p0_counted h_p0_inMemory h_p0_onDisk h_p0_thn mem (upd dsk (((nI 30) * x1) + x2).toNatClampNeg (nI 0)) fresh young dropped released owed counted inMemory_6 onDisk_15 thn moved)) (w1 := (w_R cI cZ h_p0 h_p0_m h_p0_d h_p0_fresh h_p0_young h_p0_dropped h_p0_released h_p0_owed h_p0_counted h_p0_inMemory h_p0_onDisk h_p0_thn mem (upd dsk (((nI 30) * x1) + x2).toNatClampNeg (nI 0)) fresh young dropped released owed counted inMemory_6 onDisk_15 thn_48 moved)) (wr := []) (wz := (w_R cI cZ h_p0 h_p0_m h_p0_d h_p0_fresh h_p0_young h_p0_dropped h_p0_released h_p0_owed h_p0_counted h_p0_inMemory h_p0_onDisk h_p0_thn mem (upd dsk (((nI 30) * x1) + x2).toNatClampNeg (nI 0)) fresh young dropped released owed counted inMemory_6 onDisk_15 thn_48 moved)) cf hK hN hA (c_R_tree_then l D cI cZ h_p0 h_p0_m h_p0_d h_p0_fresh h_p0_young h_p0_dropped h_p0_released h_p0_owed h_p0_counted h_p0_inMemory h_p0_onDisk h_p0_thn F mem (upd dsk (((nI 30) * x1) + x2).toNatClampNeg (nI 0)) fresh young dropped released owed counted inMemory_6 onDisk_15 thn moved thn_48 (nI 1) h48) k_R_69 ⟨rfl, rfl, by decide, by decide⟩ 2 rfl rfl rfl hl hP hD hS [0, 1, 2, 3, 4, 5, 6, 7, 8, 9, 10, 11] [] [0, 1, 2, 3, 4, 5, 6, 7, 8, 9, 10, 11] rfl rfl rfl (by decide) rfl rfl rfl rfl rfl (Nat.le_of_ble_eq_true rfl) rfl d_R_loses_48 (fun H locs hP hD hS => ?_)
  refine lv_aload_n hx hb d_R_loses_51 rfl (lv_at hl 1 rfl) ?_
  refine va_get (D := D) (ci := 2) (v := .ref h_p0_d) (C := R_R) (T := F_R) (N := 12) hx hb ht in_R hown hK hP 0 rfl rfl 1 (by decide) (ht _ f_R_13) (fun _ h9 => h9) rfl d_R_loses_52 ?_
  refine lv_bipush (v := (nI 30)) hx hb d_R_loses_55 (by decide) ?_
  refine lv_iload_n hx hb d_R_loses_57 rfl (lv_at hl 2 rfl) ?_
  refine lv_imul hx hb d_R_loses_58 ?_
  refine lv_iload_n hx hb d_R_loses_59 rfl (lv_at hl 3 rfl) ?_
  refine lv_iadd hx hb d_R_loses_60 ?_
  refine lv_iload_n hx hb d_R_loses_61 rfl (lv_at hl 0 rfl) ?_
  obtain ⟨hin, h⟩ := ga_some h
  refine va_iast hx hb hK hP hD hS 2 0 rfl rfl hin d_R_loses_62 (fun H locs hP hD hS => ?_)
  have hP : va_P D clA (w_R cI cZ h_p0 h_p0_m h_p0_d h_p0_fresh h_p0_young h_p0_dropped h_p0_released h_p0_owed h_p0_counted h_p0_inMemory h_p0_onDisk h_p0_thn mem (upd (upd dsk (((nI 30) * x1) + x2).toNatClampNeg (nI 0)) (((nI 30) * x1) + x2).toNatClampNeg v28) fresh young dropped released owed counted inMemory_6 onDisk_15 thn_48 moved) H := hP
  have hD : va_D A (w_R cI cZ h_p0 h_p0_m h_p0_d h_p0_fresh h_p0_young h_p0_dropped h_p0_released h_p0_owed h_p0_counted h_p0_inMemory h_p0_onDisk h_p0_thn mem (upd (upd dsk (((nI 30) * x1) + x2).toNatClampNeg (nI 0)) (((nI 30) * x1) + x2).toNatClampNeg v28) fresh young dropped released owed counted inMemory_6 onDisk_15 thn_48 moved) := hD
  refine lv_iconst (v := (nI 0)) hx hb d_R_loses_63 (by decide) ?_
  refine lv_istore (lv' := [(4, .int (nI 0)), (3, .int v28), (0, .ref h_p0), (1, .int x1), (2, .int x2)]) hx hb d_R_loses_64 hl (by decide) rfl (fun ls hl => ?_)
  exact w_R_loses_66 h_p0 h_p0_m h_p0_d h_p0_fresh h_p0_young h_p0_dropped h_p0_released h_p0_owed h_p0_counted h_p0_inMemory h_p0_onDisk h_p0_thn F mem fresh young dropped released owed counted moved dsk' inMemory' onDisk' thn' r ⟨cf, hr, hlk, hK, hN, hA⟩ F (nI 0) (upd (upd dsk (((nI 30) * x1) + x2).toNatClampNeg (nI 0)) (((nI 30) * x1) + x2).toNatClampNeg v28) inMemory_6 onDisk_15 thn_48 h H locs ls (lv_sub hl [2, 0] rfl) hP hD hS
set_option maxHeartbeats 4000000 in
set_option maxRecDepth 100000 in
theorem w_R_flushEntries_113 {p : Program} {l : Launch} {e : Env} {s : State} {m : MethodId} {args : Array Value} {below : List Frame} {meth : Method} {c : Code} {D : va_G} {cI cZ : ClassId} {A : Nat → Prop} (h_p0 h_p0_m h_p0_d h_p0_fresh h_p0_young h_p0_dropped h_p0_released h_p0_owed h_p0_counted h_p0_inMemory h_p0_onDisk h_p0_thn : Nat) (F : Nat) (young : (Nat → Int32)) (moved : Int32) (dropped' : (Nat → Int32)) (mem' : (Nat → Int32)) (dsk' : (Nat → Int32)) (fresh' : (Nat → Int32)) (released' : (Nat → Int32)) (owed' : (Nat → Int32)) (counted' : (Nat → Int32)) (inMemory' : (Nat → Int32)) (onDisk' : (Nat → Int32)) (thn' : (Nat → Int32)) (r : Int32) (k46 : Int32 → Int32 → Int32 → (Nat → Int32) → (Nat → Int32) → (Nat → Int32) → (Nat → Int32) → (Nat → Int32) → (Nat → Int32) → (Nat → Int32) → (Nat → Int32) → (Nat → Int32) → (Nat → Int32) → Option (Int32 × (Nat → Int32) × (Nat → Int32) × (Nat → Int32) × (Nat → Int32) × (Nat → Int32) × (Nat → Int32) × (Nat → Int32) × (Nat → Int32) × (Nat → Int32) × (Nat → Int32))) (cx : cx_ok p s m args meth c b_R_flushEntries 5 o_R_flushEntries "OrderedVolumeModel" (some .int) D cI cZ A) (h46 : (∀ (x1 : Int32) (x2 : Int32) (x3 : Int32) (dropped : (Nat → Int32)) (mem : (Nat → Int32)) (dsk : (Nat → Int32)) (fresh : (Nat → Int32)) (released : (Nat → Int32)) (owed : (Nat → Int32)) (counted : (Nat → Int32)) (inMemory : (Nat → Int32)) (onDisk : (Nat → Int32)) (thn : (Nat → Int32)), k46 x1 x2 x3 dropped mem dsk fresh released owed counted inMemory onDisk thn = some (r, dropped', mem', dsk', fresh', released', owed', counted', inMemory', onDisk', thn') → wk_G p l e rm_R_flushEntries s m args below meth c (sc_Qi below args s D cI cZ A (w_R cI cZ h_p0 h_p0_m h_p0_d h_p0_fresh h_p0_young h_p0_dropped h_p0_released h_p0_owed h_p0_counted h_p0_inMemory h_p0_onDisk h_p0_thn (mem') (dsk') (fresh') young (dropped') (released') (owed') (counted') (inMemory') (onDisk') (thn') moved) r) D A 5 46 [] [(0, .ref h_p0), (1, .int x1), (2, .int x2), (3, .int x3)] (w_R cI cZ h_p0 h_p0_m h_p0_d h_p0_fresh h_p0_young h_p0_dropped h_p0_released h_p0_owed h_p0_counted h_p0_inMemory h_p0_onDisk h_p0_thn mem dsk fresh young dropped released owed counted inMemory onDisk thn moved))) : ∀ (x1 : Int32) (x2 : Int32) (x3 : Int32) (x4 : Int32) (dropped : (Nat → Int32)) (mem : (Nat → Int32)) (dsk : (Nat → Int32)) (fresh : (Nat → Int32)) (released : (Nat → Int32)) (owed : (Nat → Int32)) (counted : (Nat → Int32)) (inMemory : (Nat → Int32)) (onDisk : (Nat → Int32)) (thn : (Nat → Int32)), s_R_flushEntries_113 F young k46 x1 x2 x3 x4 dropped mem dsk fresh released owed counted inMemory onDisk thn = some (r, dropped', mem', dsk', fresh', released', owed', counted', inMemory', onDisk', thn') → wk_G p l e rm_R_flushEntries s m args below meth c (sc_Qi below args s D cI cZ A (w_R cI cZ h_p0 h_p0_m h_p0_d h_p0_fresh h_p0_young h_p0_dropped h_p0_released h_p0_owed h_p0_counted h_p0_inMemory h_p0_onDisk h_p0_thn (mem') (dsk') (fresh') young (dropped') (released') (owed') (counted') (inMemory') (onDisk') (thn') moved) r) D A 5 113 [] [(0, .ref h_p0), (1, .int x1), (2, .int x2), (3, .int x3), (4, .int x4)] (w_R cI cZ h_p0 h_p0_m h_p0_d h_p0_fresh h_p0_young h_p0_dropped h_p0_released h_p0_owed h_p0_counted h_p0_inMemory h_p0_onDisk h_p0_thn mem dsk fresh young dropped released owed counted inMemory onDisk thn moved) := by
  obtain ⟨cf, hr, hlk, hK, hN, hA⟩ := cx
  have hx := cf.1
  have hb := cf.2.1
  have hown := cf.2.2.2.1
  have ht : ∀ w ∈ wA, w.before args s = true := fun w h => cf.2.2.2.2 w (List.mem_cons_of_mem _ h)
  intro x1 x2 x3 x4 dropped mem dsk fresh released owed counted inMemory onDisk thn h H locs ls hl hP hD hS
  unfold s_R_flushEntries_113 at h
  refine lv_aload_n hx hb d_R_flushEntries_113 rfl (lv_at hl 0 rfl) ?_
  refine va_get (D := D) (ci := 2) (v := .ref h_p0_d) (C := R_R) (T := F_R) (N := 12) hx hb ht in_R hown hK hP 0 rfl rfl 1 (by decide) (ht _ f_R_13) (fun _ h9 => h9) rfl d_R_flushEntries_114 ?_
  refine lv_bipush (v := (nI 30)) hx hb d_R_flushEntries_117 (by decide) ?_
  refine lv_iload_n hx hb d_R_flushEntries_119 rfl (lv_at hl 1 rfl) ?_
  refine lv_imul hx hb d_R_flushEntries_120 ?_
  refine lv_iload_n hx hb d_R_flushEntries_121 rfl (lv_at hl 3 rfl) ?_
  refine lv_iadd hx hb d_R_flushEntries_122 ?_
  refine lv_iload hx hb d_R_flushEntries_123 (lv_at hl 4 rfl) ?_
  obtain ⟨hin, h⟩ := ga_some h
  refine va_iast hx hb hK hP hD hS 2 0 rfl rfl hin d_R_flushEntries_125 (fun H locs hP hD hS => ?_)
  have hP : va_P D clA (w_R cI cZ h_p0 h_p0_m h_p0_d h_p0_fresh h_p0_young h_p0_dropped h_p0_released h_p0_owed h_p0_counted h_p0_inMemory h_p0_onDisk h_p0_thn mem (upd dsk (((nI 30) * x1) + x3).toNatClampNeg x4) fresh young dropped released owed counted inMemory onDisk thn moved) H := hP
  have hD : va_D A (w_R cI cZ h_p0 h_p0_m h_p0_d h_p0_fresh h_p0_young h_p0_dropped h_p0_released h_p0_owed h_p0_counted h_p0_inMemory h_p0_onDisk h_p0_thn mem (upd dsk (((nI 30) * x1) + x3).toNatClampNeg x4) fresh young dropped released owed counted inMemory onDisk thn moved) := hD
  refine lv_aload_n hx hb d_R_flushEntries_126 rfl (lv_at hl 0 rfl) ?_
  obtain ⟨⟨dropped_127, mem_127, released_127, owed_127, counted_127⟩, h127, h⟩ := bd_some h
  dsimp only at h
  refine wk_Vv (As := []) (rest := []) (wc := (w_R cI cZ h_p0 h_p0_m h_p0_d h_p0_fresh h_p0_young h_p0_dropped h_p0_released h_p0_owed h_p0_counted h_p0_inMemory h_p0_onDisk h_p0_thn mem (upd dsk (((nI 30) * x1) + x3).toNatClampNeg x4) fresh young dropped released owed counted inMemory onDisk thn moved)) (w1 := (w_R cI cZ h_p0 h_p0_m h_p0_d h_p0_fresh h_p0_young h_p0_dropped h_p0_released h_p0_owed h_p0_counted h_p0_inMemory h_p0_onDisk h_p0_thn mem_127 (upd dsk (((nI 30) * x1) + x3).toNatClampNeg x4) fresh young dropped_127 released_127 owed_127 counted_127 inMemory onDisk thn moved)) (wr := []) (wz := (w_R cI cZ h_p0 h_p0_m h_p0_d h_p0_fresh h_p0_young h_p0_dropped h_p0_released h_p0_owed h_p0_counted h_p0_inMemory h_p0_onDisk h_p0_thn mem_127 (upd dsk (((nI 30) * x1) + x3).toNatClampNeg x4) fresh young dropped_127 released_127 owed_127 counted_127 inMemory onDisk thn moved)) cf hK hN hA (c_R_settle l D cI cZ h_p0 h_p0_m h_p0_d h_p0_fresh h_p0_young h_p0_dropped h_p0_released h_p0_owed h_p0_counted h_p0_inMemory h_p0_onDisk h_p0_thn F mem (upd dsk (((nI 30) * x1) + x3).toNatClampNeg x4) fresh young dropped released owed counted inMemory onDisk thn moved dropped_127 mem_127 released_127 owed_127 counted_127 h127) k_R_79 ⟨rfl, rfl, by decide, by decide⟩ 2 rfl rfl rfl hl hP hD hS [0, 1, 2, 3, 4, 5, 6, 7, 8, 9, 10, 11] [] [0, 1, 2, 3, 4, 5, 6, 7, 8, 9, 10, 11] rfl rfl rfl (by decide) rfl rfl rfl rfl rfl (Nat.le_of_ble_eq_true rfl) rfl d_R_flushEntries_127 (fun H locs hP hD hS => ?_)
  refine lv_iinc (k := 3) (v := (x3 + (nI 1))) (lv' := [(3, .int (x3 + (nI 1))), (0, .ref h_p0), (1, .int x1), (2, .int x2), (4, .int x4)]) hx hb d_R_flushEntries_130 hl rfl rfl (by decide) rfl (fun ls hl => ?_)
  refine lv_goto hx hb d_R_flushEntries_133 rfl ?_
  exact h46 x1 x2 (x3 + (nI 1)) dropped_127 mem_127 (upd dsk (((nI 30) * x1) + x3).toNatClampNeg x4) fresh released_127 owed_127 counted_127 inMemory onDisk thn h H locs ls (lv_sub hl [1, 2, 3, 0] rfl) hP hD hS
set_option maxHeartbeats 4000000 in
set_option maxRecDepth 100000 in
theorem w_R_flushEntries_107 {p : Program} {l : Launch} {e : Env} {s : State} {m : MethodId} {args : Array Value} {below : List Frame} {meth : Method} {c : Code} {D : va_G} {cI cZ : ClassId} {A : Nat → Prop} (h_p0 h_p0_m h_p0_d h_p0_fresh h_p0_young h_p0_dropped h_p0_released h_p0_owed h_p0_counted h_p0_inMemory h_p0_onDisk h_p0_thn : Nat) (F : Nat) (young : (Nat → Int32)) (moved : Int32) (dropped' : (Nat → Int32)) (mem' : (Nat → Int32)) (dsk' : (Nat → Int32)) (fresh' : (Nat → Int32)) (released' : (Nat → Int32)) (owed' : (Nat → Int32)) (counted' : (Nat → Int32)) (inMemory' : (Nat → Int32)) (onDisk' : (Nat → Int32)) (thn' : (Nat → Int32)) (r : Int32) (k46 : Int32 → Int32 → Int32 → (Nat → Int32) → (Nat → Int32) → (Nat → Int32) → (Nat → Int32) → (Nat → Int32) → (Nat → Int32) → (Nat → Int32) → (Nat → Int32) → (Nat → Int32) → (Nat → Int32) → Option (Int32 × (Nat → Int32) × (Nat → Int32) × (Nat → Int32) × (Nat → Int32) × (Nat → Int32) × (Nat → Int32) × (Nat → Int32) × (Nat → Int32) × (Nat → Int32) × (Nat → Int32))) (cx : cx_ok p s m args meth c b_R_flushEntries 5 o_R_flushEntries "OrderedVolumeModel" (some .int) D cI cZ A) (h46 : (∀ (x1 : Int32) (x2 : Int32) (x3 : Int32) (dropped : (Nat → Int32)) (mem : (Nat → Int32)) (dsk : (Nat → Int32)) (fresh : (Nat → Int32)) (released : (Nat → Int32)) (owed : (Nat → Int32)) (counted : (Nat → Int32)) (inMemory : (Nat → Int32)) (onDisk : (Nat → Int32)) (thn : (Nat → Int32)), k46 x1 x2 x3 dropped mem dsk fresh released owed counted inMemory onDisk thn = some (r, dropped', mem', dsk', fresh', released', owed', counted', inMemory', onDisk', thn') → wk_G p l e rm_R_flushEntries s m args below meth c (sc_Qi below args s D cI cZ A (w_R cI cZ h_p0 h_p0_m h_p0_d h_p0_fresh h_p0_young h_p0_dropped h_p0_released h_p0_owed h_p0_counted h_p0_inMemory h_p0_onDisk h_p0_thn (mem') (dsk') (fresh') young (dropped') (released') (owed') (counted') (inMemory') (onDisk') (thn') moved) r) D A 5 46 [] [(0, .ref h_p0), (1, .int x1), (2, .int x2), (3, .int x3)] (w_R cI cZ h_p0 h_p0_m h_p0_d h_p0_fresh h_p0_young h_p0_dropped h_p0_released h_p0_owed h_p0_counted h_p0_inMemory h_p0_onDisk h_p0_thn mem dsk fresh young dropped released owed counted inMemory onDisk thn moved))) : ∀ (x1 : Int32) (x2 : Int32) (x3 : Int32) (dropped : (Nat → Int32)) (mem : (Nat → Int32)) (dsk : (Nat → Int32)) (fresh : (Nat → Int32)) (released : (Nat → Int32)) (owed : (Nat → Int32)) (counted : (Nat → Int32)) (inMemory : (Nat → Int32)) (onDisk : (Nat → Int32)) (thn : (Nat → Int32)), s_R_flushEntries_107 F young k46 x1 x2 x3 dropped mem dsk fresh released owed counted inMemory onDisk thn = some (r, dropped', mem', dsk', fresh', released', owed', counted', inMemory', onDisk', thn') → wk_G p l e rm_R_flushEntries s m args below meth c (sc_Qi below args s D cI cZ A (w_R cI cZ h_p0 h_p0_m h_p0_d h_p0_fresh h_p0_young h_p0_dropped h_p0_released h_p0_owed h_p0_counted h_p0_inMemory h_p0_onDisk h_p0_thn (mem') (dsk') (fresh') young (dropped') (released') (owed') (counted') (inMemory') (onDisk') (thn') moved) r) D A 5 107 [] [(0, .ref h_p0), (1, .int x1), (2, .int x2), (3, .int x3)] (w_R cI cZ h_p0 h_p0_m h_p0_d h_p0_fresh h_p0_young h_p0_dropped h_p0_released h_p0_owed h_p0_counted h_p0_inMemory h_p0_onDisk h_p0_thn mem dsk fresh young dropped released owed counted inMemory onDisk thn moved) := by
  obtain ⟨cf, hr, hlk, hK, hN, hA⟩ := cx
  have hx := cf.1
  have hb := cf.2.1
  have hown := cf.2.2.2.1
  have ht : ∀ w ∈ wA, w.before args s = true := fun w h => cf.2.2.2.2 w (List.mem_cons_of_mem _ h)
  intro x1 x2 x3 dropped mem dsk fresh released owed counted inMemory onDisk thn h H locs ls hl hP hD hS
  unfold s_R_flushEntries_107 at h
  refine lv_iinc (k := 2) (v := (x2 + (nI 1))) (lv' := [(2, .int (x2 + (nI 1))), (0, .ref h_p0), (1, .int x1), (3, .int x3)]) hx hb d_R_flushEntries_107 hl rfl rfl (by decide) rfl (fun ls hl => ?_)
  refine lv_goto hx hb d_R_flushEntries_110 rfl ?_
  refine lv_iinc (k := 3) (v := (x3 + (nI 1))) (lv' := [(3, .int (x3 + (nI 1))), (2, .int (x2 + (nI 1))), (0, .ref h_p0), (1, .int x1)]) hx hb d_R_flushEntries_130 hl rfl rfl (by decide) rfl (fun ls hl => ?_)
  refine lv_goto hx hb d_R_flushEntries_133 rfl ?_
  exact h46 x1 (x2 + (nI 1)) (x3 + (nI 1)) dropped mem dsk fresh released owed counted inMemory onDisk thn h H locs ls (lv_sub hl [2, 3, 1, 0] rfl) hP hD hS
set_option maxHeartbeats 4000000 in
set_option maxRecDepth 100000 in
theorem w_R_flushEntries_46 {p : Program} {l : Launch} {e : Env} {s : State} {m : MethodId} {args : Array Value} {below : List Frame} {meth : Method} {c : Code} {D : va_G} {cI cZ : ClassId} {A : Nat → Prop} (h_p0 h_p0_m h_p0_d h_p0_fresh h_p0_young h_p0_dropped h_p0_released h_p0_owed h_p0_counted h_p0_inMemory h_p0_onDisk h_p0_thn : Nat) (F : Nat) (young : (Nat → Int32)) (moved : Int32) (dropped' : (Nat → Int32)) (mem' : (Nat → Int32)) (dsk' : (Nat → Int32)) (fresh' : (Nat → Int32)) (released' : (Nat → Int32)) (owed' : (Nat → Int32)) (counted' : (Nat → Int32)) (inMemory' : (Nat → Int32)) (onDisk' : (Nat → Int32)) (thn' : (Nat → Int32)) (r : Int32) (cx : cx_ok p s m args meth c b_R_flushEntries 5 o_R_flushEntries "OrderedVolumeModel" (some .int) D cI cZ A) : ∀ (n : Nat) (x1 : Int32) (x2 : Int32) (x3 : Int32) (dropped : (Nat → Int32)) (mem : (Nat → Int32)) (dsk : (Nat → Int32)) (fresh : (Nat → Int32)) (released : (Nat → Int32)) (owed : (Nat → Int32)) (counted : (Nat → Int32)) (inMemory : (Nat → Int32)) (onDisk : (Nat → Int32)) (thn : (Nat → Int32)), s_R_flushEntries_46 F young n x1 x2 x3 dropped mem dsk fresh released owed counted inMemory onDisk thn = some (r, dropped', mem', dsk', fresh', released', owed', counted', inMemory', onDisk', thn') → wk_G p l e rm_R_flushEntries s m args below meth c (sc_Qi below args s D cI cZ A (w_R cI cZ h_p0 h_p0_m h_p0_d h_p0_fresh h_p0_young h_p0_dropped h_p0_released h_p0_owed h_p0_counted h_p0_inMemory h_p0_onDisk h_p0_thn (mem') (dsk') (fresh') young (dropped') (released') (owed') (counted') (inMemory') (onDisk') (thn') moved) r) D A 5 46 [] [(0, .ref h_p0), (1, .int x1), (2, .int x2), (3, .int x3)] (w_R cI cZ h_p0 h_p0_m h_p0_d h_p0_fresh h_p0_young h_p0_dropped h_p0_released h_p0_owed h_p0_counted h_p0_inMemory h_p0_onDisk h_p0_thn mem dsk fresh young dropped released owed counted inMemory onDisk thn moved) := by
  obtain ⟨cf, hr, hlk, hK, hN, hA⟩ := cx
  have hx := cf.1
  have hb := cf.2.1
  have hown := cf.2.2.2.1
  have ht : ∀ w ∈ wA, w.before args s = true := fun w h => cf.2.2.2.2 w (List.mem_cons_of_mem _ h)
  intro n
  induction n with
  | zero => intro x1 x2 x3 dropped mem dsk fresh released owed counted inMemory onDisk thn h; cases (show (none : Option (Int32 × (Nat → Int32) × (Nat → Int32) × (Nat → Int32) × (Nat → Int32) × (Nat → Int32) × (Nat → Int32) × (Nat → Int32) × (Nat → Int32) × (Nat → Int32) × (Nat → Int32))) = some _ from h)
  | succ n ih =>
    intro x1 x2 x3 dropped mem dsk fresh released owed counted inMemory onDisk thn h H locs ls hl hP hD hS
    unfold s_R_flushEntries_46 at h
    refine lv_iload_n hx hb d_R_flushEntries_46 rfl (lv_at hl 3 rfl) ?_
    refine lv_bipush (v := (nI 8)) hx hb d_R_flushEntries_47 (by decide) ?_
    refine lv_icmp_ge hx hb d_R_flushEntries_49 rfl (fun hc => ?_) (fun hc => ?_)
    · rw [if_pos hc] at h
      refine lv_iload_n hx hb d_R_flushEntries_136 rfl (lv_at hl 2 rfl) ?_
      cases h
      exact sc_iret cf hr hlk hK hP hD hS d_R_flushEntries_137
    · rw [if_neg hc] at h
      refine lv_aload_n hx hb d_R_flushEntries_52 rfl (lv_at hl 0 rfl) ?_
      refine va_get (D := D) (ci := 2) (v := .ref h_p0_m) (C := R_R) (T := F_R) (N := 12) hx hb ht in_R hown hK hP 0 rfl rfl 0 (by decide) (ht _ f_R_7) (fun _ h9 => h9) rfl d_R_flushEntries_53 ?_
      refine lv_bipush (v := (nI 30)) hx hb d_R_flushEntries_56 (by decide) ?_
      refine lv_iload_n hx hb d_R_flushEntries_58 rfl (lv_at hl 1 rfl) ?_
      refine lv_imul hx hb d_R_flushEntries_59 ?_
      refine lv_iload_n hx hb d_R_flushEntries_60 rfl (lv_at hl 3 rfl) ?_
      refine lv_iadd hx hb d_R_flushEntries_61 ?_
      obtain ⟨hin, h⟩ := gr_some h
      refine va_iald hx hb hK hP 1 0 rfl rfl hin d_R_flushEntries_62 ?_
      generalize mem (((nI 30) * x1) + x3).toNatClampNeg = v62 at h ⊢
      refine lv_istore (lv' := [(4, .int v62), (0, .ref h_p0), (1, .int x1), (2, .int x2), (3, .int x3)]) hx hb d_R_flushEntries_63 hl (by decide) rfl (fun ls hl => ?_)
      refine lv_iload hx hb d_R_flushEntries_65 (lv_at hl 0 rfl) ?_
      refine lv_aload_n hx hb d_R_flushEntries_67 rfl (lv_at hl 1 rfl) ?_
      refine va_get (D := D) (ci := 2) (v := .ref h_p0_d) (C := R_R) (T := F_R) (N := 12) hx hb ht in_R hown hK hP 0 rfl rfl 1 (by decide) (ht _ f_R_13) (fun _ h9 => h9) rfl d_R_flushEntries_68 ?_
      refine lv_bipush (v := (nI 30)) hx hb d_R_flushEntries_71 (by decide) ?_
      refine lv_iload_n hx hb d_R_flushEntries_73 rfl (lv_at hl 2 rfl) ?_
      refine lv_imul hx hb d_R_flushEntries_74 ?_
      refine lv_iload_n hx hb d_R_flushEntries_75 rfl (lv_at hl 4 rfl) ?_
      refine lv_iadd hx hb d_R_flushEntries_76 ?_
      obtain ⟨hin, h⟩ := gr_some h
      refine va_iald hx hb hK hP 2 0 rfl rfl hin d_R_flushEntries_77 ?_
      generalize dsk (((nI 30) * x1) + x3).toNatClampNeg = v77 at h ⊢
      refine lv_icmp_eq hx hb d_R_flushEntries_78 rfl (fun hc => ?_) (fun hc => ?_)
      · rw [if_pos hc] at h
        refine lv_iinc (k := 4) (v := (x3 + (nI 1))) (lv' := [(3, .int (x3 + (nI 1))), (4, .int v62), (0, .ref h_p0), (1, .int x1), (2, .int x2)]) hx hb d_R_flushEntries_130 hl rfl rfl (by decide) rfl (fun ls hl => ?_)
        refine lv_goto hx hb d_R_flushEntries_133 rfl ?_
        exact ih x1 x2 (x3 + (nI 1)) dropped mem dsk fresh released owed counted inMemory onDisk thn h H locs ls (lv_sub hl [2, 3, 4, 0] rfl) hP hD hS
      · rw [if_neg hc] at h
        refine lv_iload hx hb d_R_flushEntries_81 (lv_at hl 0 rfl) ?_
        refine lv_if_eq hx hb d_R_flushEntries_83 rfl (fun hc => ?_) (fun hc => ?_)
        · rw [if_pos hc] at h
          refine lv_aload_n hx hb d_R_flushEntries_98 rfl (lv_at hl 1 rfl) ?_
          refine lv_iload_n hx hb d_R_flushEntries_99 rfl (lv_at hl 2 rfl) ?_
          refine lv_iload_n hx hb d_R_flushEntries_100 rfl (lv_at hl 4 rfl) ?_
          obtain ⟨⟨r101, dsk_101, inMemory_101, onDisk_101, thn_101⟩, h101, h⟩ := bd_some h
          dsimp only at h
          refine wk_Vi (As := [.int x1, .int x3]) (rest := []) (wc := (w_R cI cZ h_p0 h_p0_m h_p0_d h_p0_fresh h_p0_young h_p0_dropped h_p0_released h_p0_owed h_p0_counted h_p0_inMemory h_p0_onDisk h_p0_thn mem dsk fresh young dropped released owed counted inMemory onDisk thn moved)) (w1 := (w_R cI cZ h_p0 h_p0_m h_p0_d h_p0_fresh h_p0_young h_p0_dropped h_p0_released h_p0_owed h_p0_counted h_p0_inMemory h_p0_onDisk h_p0_thn mem dsk_101 fresh young dropped released owed counted inMemory_101 onDisk_101 thn_101 moved)) (wr := []) (wz := (w_R cI cZ h_p0 h_p0_m h_p0_d h_p0_fresh h_p0_young h_p0_dropped h_p0_released h_p0_owed h_p0_counted h_p0_inMemory h_p0_onDisk h_p0_thn mem dsk_101 fresh young dropped released owed counted inMemory_101 onDisk_101 thn_101 moved)) cf hK hN hA (c_R_loses l D cI cZ h_p0 h_p0_m h_p0_d h_p0_fresh h_p0_young h_p0_dropped h_p0_released h_p0_owed h_p0_counted h_p0_inMemory h_p0_onDisk h_p0_thn F mem dsk fresh young dropped released owed counted inMemory onDisk thn moved dsk_101 inMemory_101 onDisk_101 thn_101 x1 x3 r101 h101) k_R_157 ⟨rfl, rfl, by decide, by decide⟩ 2 rfl rfl rfl hl hP hD hS [0, 1, 2, 3, 4, 5, 6, 7, 8, 9, 10, 11] [] [0, 1, 2, 3, 4, 5, 6, 7, 8, 9, 10, 11] rfl rfl rfl (by decide) rfl rfl rfl rfl rfl (Nat.le_of_ble_eq_true rfl) rfl d_R_flushEntries_101 (fun H locs hP hD hS => ?_)
          refine lv_if_eq hx hb d_R_flushEntries_104 rfl (fun hc => ?_) (fun hc => ?_)
          · rw [if_pos hc] at h
            exact w_R_flushEntries_113 h_p0 h_p0_m h_p0_d h_p0_fresh h_p0_young h_p0_dropped h_p0_released h_p0_owed h_p0_counted h_p0_inMemory h_p0_onDisk h_p0_thn F young moved dropped' mem' dsk' fresh' released' owed' counted' inMemory' onDisk' thn' r _ ⟨cf, hr, hlk, hK, hN, hA⟩ ih x1 x2 x3 v62 dropped mem dsk_101 fresh released owed counted inMemory_101 onDisk_101 thn_101 h H locs ls (lv_sub hl [1, 2, 3, 4, 0] rfl) hP hD hS
          · rw [if_neg hc] at h
            exact w_R_flushEntries_107 h_p0 h_p0_m h_p0_d h_p0_fresh h_p0_young h_p0_dropped h_p0_released h_p0_owed h_p0_counted h_p0_inMemory h_p0_onDisk h_p0_thn F young moved dropped' mem' dsk' fresh' released' owed' counted' inMemory' onDisk' thn' r _ ⟨cf, hr, hlk, hK, hN, hA⟩ ih x1 x2 x3 dropped mem dsk_101 fresh released owed counted inMemory_101 onDisk_101 thn_101 h H locs ls (lv_sub hl [1, 2, 3, 4] rfl) hP hD hS
        · rw [if_neg hc] at h
          refine lv_aload_n hx hb d_R_flushEntries_86 rfl (lv_at hl 1 rfl) ?_
          refine lv_iload_n hx hb d_R_flushEntries_87 rfl (lv_at hl 2 rfl) ?_
          refine lv_iload_n hx hb d_R_flushEntries_88 rfl (lv_at hl 4 rfl) ?_
          obtain ⟨r89, h89, h⟩ := bd_some h
          refine wk_Vi (As := [.int x1, .int x3]) (rest := []) (wc := (w_R cI cZ h_p0 h_p0_m h_p0_d h_p0_fresh h_p0_young h_p0_dropped h_p0_released h_p0_owed h_p0_counted h_p0_inMemory h_p0_onDisk h_p0_thn mem dsk fresh young dropped released owed counted inMemory onDisk thn moved)) (w1 := (w_R cI cZ h_p0 h_p0_m h_p0_d h_p0_fresh h_p0_young h_p0_dropped h_p0_released h_p0_owed h_p0_counted h_p0_inMemory h_p0_onDisk h_p0_thn mem dsk fresh young dropped released owed counted inMemory onDisk thn moved)) (wr := []) (wz := (w_R cI cZ h_p0 h_p0_m h_p0_d h_p0_fresh h_p0_young h_p0_dropped h_p0_released h_p0_owed h_p0_counted h_p0_inMemory h_p0_onDisk h_p0_thn mem dsk fresh young dropped released owed counted inMemory onDisk thn moved)) cf hK hN hA (c_R_early l D cI cZ h_p0 h_p0_m h_p0_d h_p0_fresh h_p0_young h_p0_dropped h_p0_released h_p0_owed h_p0_counted h_p0_inMemory h_p0_onDisk h_p0_thn mem dsk fresh young dropped released owed counted inMemory onDisk thn moved x1 x3 r89 h89) k_R_154 ⟨rfl, rfl, by decide, by decide⟩ 2 rfl rfl rfl hl hP hD hS [0, 1, 2, 3, 4, 5, 6, 7, 8, 9, 10, 11] [] [0, 1, 2, 3, 4, 5, 6, 7, 8, 9, 10, 11] rfl rfl rfl (by decide) rfl rfl rfl rfl rfl (Nat.le_of_ble_eq_true rfl) rfl d_R_flushEntries_89 (fun H locs hP hD hS => ?_)
          refine lv_if_eq hx hb d_R_flushEntries_92 rfl (fun hc => ?_) (fun hc => ?_)
          · rw [if_pos hc] at h
            exact w_R_flushEntries_113 h_p0 h_p0_m h_p0_d h_p0_fresh h_p0_young h_p0_dropped h_p0_released h_p0_owed h_p0_counted h_p0_inMemory h_p0_onDisk h_p0_thn F young moved dropped' mem' dsk' fresh' released' owed' counted' inMemory' onDisk' thn' r _ ⟨cf, hr, hlk, hK, hN, hA⟩ ih x1 x2 x3 v62 dropped mem dsk fresh released owed counted inMemory onDisk thn h H locs ls (lv_sub hl [1, 2, 3, 4, 0] rfl) hP hD hS
          · rw [if_neg hc] at h
            refine lv_goto hx hb d_R_flushEntries_95 rfl ?_
            exact w_R_flushEntries_107 h_p0 h_p0_m h_p0_d h_p0_fresh h_p0_young h_p0_dropped h_p0_released h_p0_owed h_p0_counted h_p0_inMemory h_p0_onDisk h_p0_thn F young moved dropped' mem' dsk' fresh' released' owed' counted' inMemory' onDisk' thn' r _ ⟨cf, hr, hlk, hK, hN, hA⟩ ih x1 x2 x3 dropped mem dsk fresh released owed counted inMemory onDisk thn h H locs ls (lv_sub hl [1, 2, 3, 4] rfl) hP hD hS
set_option maxHeartbeats 4000000 in
set_option maxRecDepth 100000 in
theorem w_R_flushEntries_35 {p : Program} {l : Launch} {e : Env} {s : State} {m : MethodId} {args : Array Value} {below : List Frame} {meth : Method} {c : Code} {D : va_G} {cI cZ : ClassId} {A : Nat → Prop} (h_p0 h_p0_m h_p0_d h_p0_fresh h_p0_young h_p0_dropped h_p0_released h_p0_owed h_p0_counted h_p0_inMemory h_p0_onDisk h_p0_thn : Nat) (F : Nat) (young : (Nat → Int32)) (moved : Int32) (dropped' : (Nat → Int32)) (mem' : (Nat → Int32)) (dsk' : (Nat → Int32)) (fresh' : (Nat → Int32)) (released' : (Nat → Int32)) (owed' : (Nat → Int32)) (counted' : (Nat → Int32)) (inMemory' : (Nat → Int32)) (onDisk' : (Nat → Int32)) (thn' : (Nat → Int32)) (r : Int32) (cx : cx_ok p s m args meth c b_R_flushEntries 5 o_R_flushEntries "OrderedVolumeModel" (some .int) D cI cZ A) : ∀ (x1 : Int32) (dropped : (Nat → Int32)) (mem : (Nat → Int32)) (dsk : (Nat → Int32)) (fresh : (Nat → Int32)) (released : (Nat → Int32)) (owed : (Nat → Int32)) (counted : (Nat → Int32)) (inMemory : (Nat → Int32)) (onDisk : (Nat → Int32)) (thn : (Nat → Int32)), s_R_flushEntries_35 F young x1 dropped mem dsk fresh released owed counted inMemory onDisk thn = some (r, dropped', mem', dsk', fresh', released', owed', counted', inMemory', onDisk', thn') → wk_G p l e rm_R_flushEntries s m args below meth c (sc_Qi below args s D cI cZ A (w_R cI cZ h_p0 h_p0_m h_p0_d h_p0_fresh h_p0_young h_p0_dropped h_p0_released h_p0_owed h_p0_counted h_p0_inMemory h_p0_onDisk h_p0_thn (mem') (dsk') (fresh') young (dropped') (released') (owed') (counted') (inMemory') (onDisk') (thn') moved) r) D A 5 35 [] [(0, .ref h_p0), (1, .int x1)] (w_R cI cZ h_p0 h_p0_m h_p0_d h_p0_fresh h_p0_young h_p0_dropped h_p0_released h_p0_owed h_p0_counted h_p0_inMemory h_p0_onDisk h_p0_thn mem dsk fresh young dropped released owed counted inMemory onDisk thn moved) := by
  obtain ⟨cf, hr, hlk, hK, hN, hA⟩ := cx
  have hx := cf.1
  have hb := cf.2.1
  have hown := cf.2.2.2.1
  have ht : ∀ w ∈ wA, w.before args s = true := fun w h => cf.2.2.2.2 w (List.mem_cons_of_mem _ h)
  intro x1 dropped mem dsk fresh released owed counted inMemory onDisk thn h H locs ls hl hP hD hS
  unfold s_R_flushEntries_35 at h
  refine lv_aload_n hx hb d_R_flushEntries_35 rfl (lv_at hl 0 rfl) ?_
  refine va_get (D := D) (ci := 2) (v := .ref h_p0_fresh) (C := R_R) (T := F_R) (N := 12) hx hb ht in_R hown hK hP 0 rfl rfl 2 (by decide) (ht _ f_R_16) (fun _ h9 => h9) rfl d_R_flushEntries_36 ?_
  refine lv_iload_n hx hb d_R_flushEntries_39 rfl (lv_at hl 1 rfl) ?_
  refine lv_iconst (v := (nI 0)) hx hb d_R_flushEntries_40 (by decide) ?_
  obtain ⟨hin, h⟩ := ga_some h
  refine va_zast hx hb hK hP hD hS 3 1 rfl rfl hin d_R_flushEntries_41 (fun H locs hP hD hS => ?_)
  have hP : va_P D clA (w_R cI cZ h_p0 h_p0_m h_p0_d h_p0_fresh h_p0_young h_p0_dropped h_p0_released h_p0_owed h_p0_counted h_p0_inMemory h_p0_onDisk h_p0_thn mem dsk (upd fresh x1.toNatClampNeg (vp_nar .boolean (nI 0))) young dropped released owed counted inMemory onDisk thn moved) H := hP
  have hD : va_D A (w_R cI cZ h_p0 h_p0_m h_p0_d h_p0_fresh h_p0_young h_p0_dropped h_p0_released h_p0_owed h_p0_counted h_p0_inMemory h_p0_onDisk h_p0_thn mem dsk (upd fresh x1.toNatClampNeg (vp_nar .boolean (nI 0))) young dropped released owed counted inMemory onDisk thn moved) := hD
  refine lv_iconst (v := (nI 0)) hx hb d_R_flushEntries_42 (by decide) ?_
  refine lv_istore_n (lv' := [(2, .int (nI 0)), (0, .ref h_p0), (1, .int x1)]) hx hb d_R_flushEntries_43 rfl hl (by decide) rfl (fun ls hl => ?_)
  refine lv_iconst (v := (nI 0)) hx hb d_R_flushEntries_44 (by decide) ?_
  refine lv_istore_n (lv' := [(3, .int (nI 0)), (2, .int (nI 0)), (0, .ref h_p0), (1, .int x1)]) hx hb d_R_flushEntries_45 rfl hl (by decide) rfl (fun ls hl => ?_)
  exact w_R_flushEntries_46 h_p0 h_p0_m h_p0_d h_p0_fresh h_p0_young h_p0_dropped h_p0_released h_p0_owed h_p0_counted h_p0_inMemory h_p0_onDisk h_p0_thn F young moved dropped' mem' dsk' fresh' released' owed' counted' inMemory' onDisk' thn' r ⟨cf, hr, hlk, hK, hN, hA⟩ F x1 (nI 0) (nI 0) dropped mem dsk (upd fresh x1.toNatClampNeg (vp_nar .boolean (nI 0))) released owed counted inMemory onDisk thn h H locs ls (lv_sub hl [2, 3, 1, 0] rfl) hP hD hS
set_option maxHeartbeats 4000000 in
set_option maxRecDepth 100000 in
theorem w_R_flushEntries_2 {p : Program} {l : Launch} {e : Env} {s : State} {m : MethodId} {args : Array Value} {below : List Frame} {meth : Method} {c : Code} {D : va_G} {cI cZ : ClassId} {A : Nat → Prop} (h_p0 h_p0_m h_p0_d h_p0_fresh h_p0_young h_p0_dropped h_p0_released h_p0_owed h_p0_counted h_p0_inMemory h_p0_onDisk h_p0_thn : Nat) (F : Nat) (young : (Nat → Int32)) (moved : Int32) (dropped' : (Nat → Int32)) (mem' : (Nat → Int32)) (dsk' : (Nat → Int32)) (fresh' : (Nat → Int32)) (released' : (Nat → Int32)) (owed' : (Nat → Int32)) (counted' : (Nat → Int32)) (inMemory' : (Nat → Int32)) (onDisk' : (Nat → Int32)) (thn' : (Nat → Int32)) (r : Int32) (cx : cx_ok p s m args meth c b_R_flushEntries 5 o_R_flushEntries "OrderedVolumeModel" (some .int) D cI cZ A) : ∀ (n : Nat) (x1 : Int32) (x2 : Int32) (dropped : (Nat → Int32)) (mem : (Nat → Int32)) (dsk : (Nat → Int32)) (fresh : (Nat → Int32)) (released : (Nat → Int32)) (owed : (Nat → Int32)) (counted : (Nat → Int32)) (inMemory : (Nat → Int32)) (onDisk : (Nat → Int32)) (thn : (Nat → Int32)), s_R_flushEntries_2 F young n x1 x2 dropped mem dsk fresh released owed counted inMemory onDisk thn = some (r, dropped', mem', dsk', fresh', released', owed', counted', inMemory', onDisk', thn') → wk_G p l e rm_R_flushEntries s m args below meth c (sc_Qi below args s D cI cZ A (w_R cI cZ h_p0 h_p0_m h_p0_d h_p0_fresh h_p0_young h_p0_dropped h_p0_released h_p0_owed h_p0_counted h_p0_inMemory h_p0_onDisk h_p0_thn (mem') (dsk') (fresh') young (dropped') (released') (owed') (counted') (inMemory') (onDisk') (thn') moved) r) D A 5 2 [] [(0, .ref h_p0), (1, .int x1), (2, .int x2)] (w_R cI cZ h_p0 h_p0_m h_p0_d h_p0_fresh h_p0_young h_p0_dropped h_p0_released h_p0_owed h_p0_counted h_p0_inMemory h_p0_onDisk h_p0_thn mem dsk fresh young dropped released owed counted inMemory onDisk thn moved) := by
  obtain ⟨cf, hr, hlk, hK, hN, hA⟩ := cx
  have hx := cf.1
  have hb := cf.2.1
  have hown := cf.2.2.2.1
  have ht : ∀ w ∈ wA, w.before args s = true := fun w h => cf.2.2.2.2 w (List.mem_cons_of_mem _ h)
  intro n
  induction n with
  | zero => intro x1 x2 dropped mem dsk fresh released owed counted inMemory onDisk thn h; cases (show (none : Option (Int32 × (Nat → Int32) × (Nat → Int32) × (Nat → Int32) × (Nat → Int32) × (Nat → Int32) × (Nat → Int32) × (Nat → Int32) × (Nat → Int32) × (Nat → Int32) × (Nat → Int32))) = some _ from h)
  | succ n ih =>
    intro x1 x2 dropped mem dsk fresh released owed counted inMemory onDisk thn h H locs ls hl hP hD hS
    unfold s_R_flushEntries_2 at h
    refine lv_iload_n hx hb d_R_flushEntries_2 rfl (lv_at hl 2 rfl) ?_
    refine lv_bipush (v := (nI 8)) hx hb d_R_flushEntries_3 (by decide) ?_
    refine lv_icmp_ge hx hb d_R_flushEntries_5 rfl (fun hc => ?_) (fun hc => ?_)
    · rw [if_pos hc] at h
      exact w_R_flushEntries_35 h_p0 h_p0_m h_p0_d h_p0_fresh h_p0_young h_p0_dropped h_p0_released h_p0_owed h_p0_counted h_p0_inMemory h_p0_onDisk h_p0_thn F young moved dropped' mem' dsk' fresh' released' owed' counted' inMemory' onDisk' thn' r ⟨cf, hr, hlk, hK, hN, hA⟩ x1 dropped mem dsk fresh released owed counted inMemory onDisk thn h H locs ls (lv_sub hl [0, 1] rfl) hP hD hS
    · rw [if_neg hc] at h
      refine lv_aload_n hx hb d_R_flushEntries_8 rfl (lv_at hl 0 rfl) ?_
      refine va_get (D := D) (ci := 2) (v := .ref h_p0_fresh) (C := R_R) (T := F_R) (N := 12) hx hb ht in_R hown hK hP 0 rfl rfl 2 (by decide) (ht _ f_R_16) (fun _ h9 => h9) rfl d_R_flushEntries_9 ?_
      refine lv_iload_n hx hb d_R_flushEntries_12 rfl (lv_at hl 1 rfl) ?_
      obtain ⟨hin, h⟩ := gr_some h
      refine va_zald hx hb hK hP 3 1 rfl rfl hin d_R_flushEntries_13 ?_
      generalize fresh x1.toNatClampNeg = v13 at h ⊢
      refine lv_if_eq hx hb d_R_flushEntries_14 rfl (fun hc => ?_) (fun hc => ?_)
      · rw [if_pos hc] at h
        exact w_R_flushEntries_35 h_p0 h_p0_m h_p0_d h_p0_fresh h_p0_young h_p0_dropped h_p0_released h_p0_owed h_p0_counted h_p0_inMemory h_p0_onDisk h_p0_thn F young moved dropped' mem' dsk' fresh' released' owed' counted' inMemory' onDisk' thn' r ⟨cf, hr, hlk, hK, hN, hA⟩ x1 dropped mem dsk fresh released owed counted inMemory onDisk thn h H locs ls (lv_sub hl [0, 1] rfl) hP hD hS
      · rw [if_neg hc] at h
        refine lv_aload_n hx hb d_R_flushEntries_17 rfl (lv_at hl 0 rfl) ?_
        refine va_get (D := D) (ci := 2) (v := .ref h_p0_d) (C := R_R) (T := F_R) (N := 12) hx hb ht in_R hown hK hP 0 rfl rfl 1 (by decide) (ht _ f_R_13) (fun _ h9 => h9) rfl d_R_flushEntries_18 ?_
        refine lv_bipush (v := (nI 30)) hx hb d_R_flushEntries_21 (by decide) ?_
        refine lv_iload_n hx hb d_R_flushEntries_23 rfl (lv_at hl 1 rfl) ?_
        refine lv_imul hx hb d_R_flushEntries_24 ?_
        refine lv_iload_n hx hb d_R_flushEntries_25 rfl (lv_at hl 2 rfl) ?_
        refine lv_iadd hx hb d_R_flushEntries_26 ?_
        refine lv_iconst (v := (nI 0)) hx hb d_R_flushEntries_27 (by decide) ?_
        obtain ⟨hin, h⟩ := ga_some h
        refine va_iast hx hb hK hP hD hS 2 0 rfl rfl hin d_R_flushEntries_28 (fun H locs hP hD hS => ?_)
        have hP : va_P D clA (w_R cI cZ h_p0 h_p0_m h_p0_d h_p0_fresh h_p0_young h_p0_dropped h_p0_released h_p0_owed h_p0_counted h_p0_inMemory h_p0_onDisk h_p0_thn mem (upd dsk (((nI 30) * x1) + x2).toNatClampNeg (nI 0)) fresh young dropped released owed counted inMemory onDisk thn moved) H := hP
        have hD : va_D A (w_R cI cZ h_p0 h_p0_m h_p0_d h_p0_fresh h_p0_young h_p0_dropped h_p0_released h_p0_owed h_p0_counted h_p0_inMemory h_p0_onDisk h_p0_thn mem (upd dsk (((nI 30) * x1) + x2).toNatClampNeg (nI 0)) fresh young dropped released owed counted inMemory onDisk thn moved) := hD
        refine lv_iinc (k := 2) (v := (x2 + (nI 1))) (lv' := [(2, .int (x2 + (nI 1))), (0, .ref h_p0), (1, .int x1)]) hx hb d_R_flushEntries_29 hl rfl rfl (by decide) rfl (fun ls hl => ?_)
        refine lv_goto hx hb d_R_flushEntries_32 rfl ?_
        exact ih x1 (x2 + (nI 1)) dropped mem (upd dsk (((nI 30) * x1) + x2).toNatClampNeg (nI 0)) fresh released owed counted inMemory onDisk thn h H locs ls (lv_sub hl [1, 2, 0] rfl) hP hD hS
set_option maxHeartbeats 4000000 in
set_option maxRecDepth 100000 in
theorem c_R_flushEntries (l : Launch) (D : va_G) (cI cZ : ClassId) (h_p0 h_p0_m h_p0_d h_p0_fresh h_p0_young h_p0_dropped h_p0_released h_p0_owed h_p0_counted h_p0_inMemory h_p0_onDisk h_p0_thn : Nat) (F : Nat) (mem : (Nat → Int32)) (dsk : (Nat → Int32)) (fresh : (Nat → Int32)) (young : (Nat → Int32)) (dropped : (Nat → Int32)) (released : (Nat → Int32)) (owed : (Nat → Int32)) (counted : (Nat → Int32)) (inMemory : (Nat → Int32)) (onDisk : (Nat → Int32)) (thn : (Nat → Int32)) (moved : Int32) (dropped' : (Nat → Int32)) (mem' : (Nat → Int32)) (dsk' : (Nat → Int32)) (fresh' : (Nat → Int32)) (released' : (Nat → Int32)) (owed' : (Nat → Int32)) (counted' : (Nat → Int32)) (inMemory' : (Nat → Int32)) (onDisk' : (Nat → Int32)) (thn' : (Nat → Int32)) (x1 : Int32) (r : Int32) (h : s_R_flushEntries F young x1 dropped mem dsk fresh released owed counted inMemory onDisk thn = some (r, dropped', mem', dsk', fresh', released', owed', counted', inMemory', onDisk', thn')) : sc_i l y_R_flushEntries (o_R_flushEntries :: wA) rm_R_flushEntries D cI cZ [.ref h_p0, .int x1] (w_R cI cZ h_p0 h_p0_m h_p0_d h_p0_fresh h_p0_young h_p0_dropped h_p0_released h_p0_owed h_p0_counted h_p0_inMemory h_p0_onDisk h_p0_thn mem dsk fresh young dropped released owed counted inMemory onDisk thn moved) (w_R cI cZ h_p0 h_p0_m h_p0_d h_p0_fresh h_p0_young h_p0_dropped h_p0_released h_p0_owed h_p0_counted h_p0_inMemory h_p0_onDisk h_p0_thn (mem') (dsk') (fresh') young (dropped') (released') (owed') (counted') (inMemory') (onDisk') (thn') moved) r := by
  refine sc_i_of (cc := b_R_flushEntries) (maxL := 5) (ret := (some .int)) (by decide) rfl (Nat.le_of_ble_eq_true rfl) ?_
  intro p e s m below meth c A cf hr hlk hK hN hA H locs ls hl hP hD hS
  have hx := cf.1
  have hb := cf.2.1
  have hown := cf.2.2.2.1
  have ht : ∀ w ∈ wA, w.before _ s = true := fun w h => cf.2.2.2.2 w (List.mem_cons_of_mem _ h)
  unfold s_R_flushEntries at h
  have hl : lv_has ls 5 [(0, .ref h_p0), (1, .int x1)] := hl
  refine lv_iconst (v := (nI 0)) hx hb d_R_flushEntries_0 (by decide) ?_
  refine lv_istore_n (lv' := [(2, .int (nI 0)), (0, .ref h_p0), (1, .int x1)]) hx hb d_R_flushEntries_1 rfl hl (by decide) rfl (fun ls hl => ?_)
  exact w_R_flushEntries_2 h_p0 h_p0_m h_p0_d h_p0_fresh h_p0_young h_p0_dropped h_p0_released h_p0_owed h_p0_counted h_p0_inMemory h_p0_onDisk h_p0_thn F young moved dropped' mem' dsk' fresh' released' owed' counted' inMemory' onDisk' thn' r ⟨cf, hr, hlk, hK, hN, hA⟩ F x1 (nI 0) dropped mem dsk fresh released owed counted inMemory onDisk thn h H locs ls (lv_sub hl [1, 2, 0] rfl) hP hD hS
set_option maxHeartbeats 4000000 in
set_option maxRecDepth 100000 in
theorem w_R_flush_121 {p : Program} {l : Launch} {e : Env} {s : State} {m : MethodId} {args : Array Value} {below : List Frame} {meth : Method} {c : Code} {D : va_G} {cI cZ : ClassId} {A : Nat → Prop} (h_p0 h_p0_m h_p0_d h_p0_fresh h_p0_young h_p0_dropped h_p0_released h_p0_owed h_p0_counted h_p0_inMemory h_p0_onDisk h_p0_thn : Nat) (F : Nat) (moved : Int32) (young' : (Nat → Int32)) (dropped' : (Nat → Int32)) (mem' : (Nat → Int32)) (dsk' : (Nat → Int32)) (fresh' : (Nat → Int32)) (released' : (Nat → Int32)) (owed' : (Nat → Int32)) (counted' : (Nat → Int32)) (inMemory' : (Nat → Int32)) (onDisk' : (Nat → Int32)) (thn' : (Nat → Int32)) (r : Int32) (cx : cx_ok p s m args meth c b_R_flush 4 o_R_flush "OrderedVolumeModel" (some .int) D cI cZ A) : ∀ (t1 : Int32) (t2 : Int32) (young : (Nat → Int32)) (dropped : (Nat → Int32)) (mem : (Nat → Int32)) (dsk : (Nat → Int32)) (fresh : (Nat → Int32)) (released : (Nat → Int32)) (owed : (Nat → Int32)) (counted : (Nat → Int32)) (inMemory : (Nat → Int32)) (onDisk : (Nat → Int32)) (thn : (Nat → Int32)), s_R_flush_121 F t1 t2 young dropped mem dsk fresh released owed counted inMemory onDisk thn = some (r, young', dropped', mem', dsk', fresh', released', owed', counted', inMemory', onDisk', thn') → wk_G p l e rm_R_flush s m args below meth c (sc_Qi below args s D cI cZ A (w_R cI cZ h_p0 h_p0_m h_p0_d h_p0_fresh h_p0_young h_p0_dropped h_p0_released h_p0_owed h_p0_counted h_p0_inMemory h_p0_onDisk h_p0_thn (mem') (dsk') (fresh') (young') (dropped') (released') (owed') (counted') (inMemory') (onDisk') (thn') moved) r) D A 4 121 [.int t2, .int t1, .ref h_p0_fresh] [(0, .ref h_p0)] (w_R cI cZ h_p0 h_p0_m h_p0_d h_p0_fresh h_p0_young h_p0_dropped h_p0_released h_p0_owed h_p0_counted h_p0_inMemory h_p0_onDisk h_p0_thn mem dsk fresh young dropped released owed counted inMemory onDisk thn moved) := by
  obtain ⟨cf, hr, hlk, hK, hN, hA⟩ := cx
  have hx := cf.1
  have hb := cf.2.1
  have hown := cf.2.2.2.1
  have ht : ∀ w ∈ wA, w.before args s = true := fun w h => cf.2.2.2.2 w (List.mem_cons_of_mem _ h)
  intro t1 t2 young dropped mem dsk fresh released owed counted inMemory onDisk thn h H locs ls hl hP hD hS
  unfold s_R_flush_121 at h
  obtain ⟨hin, h⟩ := ga_some h
  refine va_zast hx hb hK hP hD hS 3 1 rfl rfl hin d_R_flush_121 (fun H locs hP hD hS => ?_)
  have hP : va_P D clA (w_R cI cZ h_p0 h_p0_m h_p0_d h_p0_fresh h_p0_young h_p0_dropped h_p0_released h_p0_owed h_p0_counted h_p0_inMemory h_p0_onDisk h_p0_thn mem dsk (upd fresh t1.toNatClampNeg (vp_nar .boolean t2)) young dropped released owed counted inMemory onDisk thn moved) H := hP
  have hD : va_D A (w_R cI cZ h_p0 h_p0_m h_p0_d h_p0_fresh h_p0_young h_p0_dropped h_p0_released h_p0_owed h_p0_counted h_p0_inMemory h_p0_onDisk h_p0_thn mem dsk (upd fresh t1.toNatClampNeg (vp_nar .boolean t2)) young dropped released owed counted inMemory onDisk thn moved) := hD
  refine lv_iconst (v := (nI 0)) hx hb d_R_flush_122 (by decide) ?_
  cases h
  exact sc_iret cf hr hlk hK hP hD hS d_R_flush_123
set_option maxHeartbeats 4000000 in
set_option maxRecDepth 100000 in
theorem w_R_flush_120 {p : Program} {l : Launch} {e : Env} {s : State} {m : MethodId} {args : Array Value} {below : List Frame} {meth : Method} {c : Code} {D : va_G} {cI cZ : ClassId} {A : Nat → Prop} (h_p0 h_p0_m h_p0_d h_p0_fresh h_p0_young h_p0_dropped h_p0_released h_p0_owed h_p0_counted h_p0_inMemory h_p0_onDisk h_p0_thn : Nat) (F : Nat) (moved : Int32) (young' : (Nat → Int32)) (dropped' : (Nat → Int32)) (mem' : (Nat → Int32)) (dsk' : (Nat → Int32)) (fresh' : (Nat → Int32)) (released' : (Nat → Int32)) (owed' : (Nat → Int32)) (counted' : (Nat → Int32)) (inMemory' : (Nat → Int32)) (onDisk' : (Nat → Int32)) (thn' : (Nat → Int32)) (r : Int32) (cx : cx_ok p s m args meth c b_R_flush 4 o_R_flush "OrderedVolumeModel" (some .int) D cI cZ A) : ∀ (t1 : Int32) (young : (Nat → Int32)) (dropped : (Nat → Int32)) (mem : (Nat → Int32)) (dsk : (Nat → Int32)) (fresh : (Nat → Int32)) (released : (Nat → Int32)) (owed : (Nat → Int32)) (counted : (Nat → Int32)) (inMemory : (Nat → Int32)) (onDisk : (Nat → Int32)) (thn : (Nat → Int32)), s_R_flush_120 F t1 young dropped mem dsk fresh released owed counted inMemory onDisk thn = some (r, young', dropped', mem', dsk', fresh', released', owed', counted', inMemory', onDisk', thn') → wk_G p l e rm_R_flush s m args below meth c (sc_Qi below args s D cI cZ A (w_R cI cZ h_p0 h_p0_m h_p0_d h_p0_fresh h_p0_young h_p0_dropped h_p0_released h_p0_owed h_p0_counted h_p0_inMemory h_p0_onDisk h_p0_thn (mem') (dsk') (fresh') (young') (dropped') (released') (owed') (counted') (inMemory') (onDisk') (thn') moved) r) D A 4 120 [.int t1, .ref h_p0_fresh] [(0, .ref h_p0)] (w_R cI cZ h_p0 h_p0_m h_p0_d h_p0_fresh h_p0_young h_p0_dropped h_p0_released h_p0_owed h_p0_counted h_p0_inMemory h_p0_onDisk h_p0_thn mem dsk fresh young dropped released owed counted inMemory onDisk thn moved) := by
  obtain ⟨cf, hr, hlk, hK, hN, hA⟩ := cx
  have hx := cf.1
  have hb := cf.2.1
  have hown := cf.2.2.2.1
  have ht : ∀ w ∈ wA, w.before args s = true := fun w h => cf.2.2.2.2 w (List.mem_cons_of_mem _ h)
  intro t1 young dropped mem dsk fresh released owed counted inMemory onDisk thn h H locs ls hl hP hD hS
  unfold s_R_flush_120 at h
  refine lv_iconst (v := (nI 0)) hx hb d_R_flush_120 (by decide) ?_
  exact w_R_flush_121 h_p0 h_p0_m h_p0_d h_p0_fresh h_p0_young h_p0_dropped h_p0_released h_p0_owed h_p0_counted h_p0_inMemory h_p0_onDisk h_p0_thn F moved young' dropped' mem' dsk' fresh' released' owed' counted' inMemory' onDisk' thn' r ⟨cf, hr, hlk, hK, hN, hA⟩ t1 (nI 0) young dropped mem dsk fresh released owed counted inMemory onDisk thn h H locs ls (lv_sub hl [0] rfl) hP hD hS
set_option maxHeartbeats 4000000 in
set_option maxRecDepth 100000 in
theorem w_R_flush_97 {p : Program} {l : Launch} {e : Env} {s : State} {m : MethodId} {args : Array Value} {below : List Frame} {meth : Method} {c : Code} {D : va_G} {cI cZ : ClassId} {A : Nat → Prop} (h_p0 h_p0_m h_p0_d h_p0_fresh h_p0_young h_p0_dropped h_p0_released h_p0_owed h_p0_counted h_p0_inMemory h_p0_onDisk h_p0_thn : Nat) (F : Nat) (moved : Int32) (young' : (Nat → Int32)) (dropped' : (Nat → Int32)) (mem' : (Nat → Int32)) (dsk' : (Nat → Int32)) (fresh' : (Nat → Int32)) (released' : (Nat → Int32)) (owed' : (Nat → Int32)) (counted' : (Nat → Int32)) (inMemory' : (Nat → Int32)) (onDisk' : (Nat → Int32)) (thn' : (Nat → Int32)) (r : Int32) (cx : cx_ok p s m args meth c b_R_flush 4 o_R_flush "OrderedVolumeModel" (some .int) D cI cZ A) : ∀ (x1 : Int32) (x2 : Int32) (young : (Nat → Int32)) (dropped : (Nat → Int32)) (mem : (Nat → Int32)) (dsk : (Nat → Int32)) (fresh : (Nat → Int32)) (released : (Nat → Int32)) (owed : (Nat → Int32)) (counted : (Nat → Int32)) (inMemory : (Nat → Int32)) (onDisk : (Nat → Int32)) (thn : (Nat → Int32)), s_R_flush_97 F x1 x2 young dropped mem dsk fresh released owed counted inMemory onDisk thn = some (r, young', dropped', mem', dsk', fresh', released', owed', counted', inMemory', onDisk', thn') → wk_G p l e rm_R_flush s m args below meth c (sc_Qi below args s D cI cZ A (w_R cI cZ h_p0 h_p0_m h_p0_d h_p0_fresh h_p0_young h_p0_dropped h_p0_released h_p0_owed h_p0_counted h_p0_inMemory h_p0_onDisk h_p0_thn (mem') (dsk') (fresh') (young') (dropped') (released') (owed') (counted') (inMemory') (onDisk') (thn') moved) r) D A 4 97 [] [(0, .ref h_p0), (1, .int x1), (2, .int x2)] (w_R cI cZ h_p0 h_p0_m h_p0_d h_p0_fresh h_p0_young h_p0_dropped h_p0_released h_p0_owed h_p0_counted h_p0_inMemory h_p0_onDisk h_p0_thn mem dsk fresh young dropped released owed counted inMemory onDisk thn moved) := by
  obtain ⟨cf, hr, hlk, hK, hN, hA⟩ := cx
  have hx := cf.1
  have hb := cf.2.1
  have hown := cf.2.2.2.1
  have ht : ∀ w ∈ wA, w.before args s = true := fun w h => cf.2.2.2.2 w (List.mem_cons_of_mem _ h)
  intro x1 x2 young dropped mem dsk fresh released owed counted inMemory onDisk thn h H locs ls hl hP hD hS
  unfold s_R_flush_97 at h
  refine lv_aload_n hx hb d_R_flush_97 rfl (lv_at hl 0 rfl) ?_
  refine va_get (D := D) (ci := 2) (v := .ref h_p0_fresh) (C := R_R) (T := F_R) (N := 12) hx hb ht in_R hown hK hP 0 rfl rfl 2 (by decide) (ht _ f_R_16) (fun _ h9 => h9) rfl d_R_flush_98 ?_
  refine lv_iload_n hx hb d_R_flush_101 rfl (lv_at hl 1 rfl) ?_
  refine lv_aload_n hx hb d_R_flush_102 rfl (lv_at hl 0 rfl) ?_
  refine va_get (D := D) (ci := 2) (v := .ref h_p0_fresh) (C := R_R) (T := F_R) (N := 12) hx hb ht in_R hown hK hP 0 rfl rfl 2 (by decide) (ht _ f_R_16) (fun _ h9 => h9) rfl d_R_flush_103 ?_
  refine lv_iload_n hx hb d_R_flush_106 rfl (lv_at hl 1 rfl) ?_
  obtain ⟨hin, h⟩ := gr_some h
  refine va_zald hx hb hK hP 3 1 rfl rfl hin d_R_flush_107 ?_
  generalize fresh x1.toNatClampNeg = v107 at h ⊢
  refine lv_if_eq hx hb d_R_flush_108 rfl (fun hc => ?_) (fun hc => ?_)
  · rw [if_pos hc] at h
    exact w_R_flush_120 h_p0 h_p0_m h_p0_d h_p0_fresh h_p0_young h_p0_dropped h_p0_released h_p0_owed h_p0_counted h_p0_inMemory h_p0_onDisk h_p0_thn F moved young' dropped' mem' dsk' fresh' released' owed' counted' inMemory' onDisk' thn' r ⟨cf, hr, hlk, hK, hN, hA⟩ x1 young dropped mem dsk fresh released owed counted inMemory onDisk thn h H locs ls (lv_sub hl [0] rfl) hP hD hS
  · rw [if_neg hc] at h
    refine lv_iload_n hx hb d_R_flush_111 rfl (lv_at hl 2 rfl) ?_
    refine lv_iconst (v := (nI 1)) hx hb d_R_flush_112 (by decide) ?_
    refine lv_icmp_eq hx hb d_R_flush_113 rfl (fun hc => ?_) (fun hc => ?_)
    · rw [if_pos hc] at h
      exact w_R_flush_120 h_p0 h_p0_m h_p0_d h_p0_fresh h_p0_young h_p0_dropped h_p0_released h_p0_owed h_p0_counted h_p0_inMemory h_p0_onDisk h_p0_thn F moved young' dropped' mem' dsk' fresh' released' owed' counted' inMemory' onDisk' thn' r ⟨cf, hr, hlk, hK, hN, hA⟩ x1 young dropped mem dsk fresh released owed counted inMemory onDisk thn h H locs ls (lv_sub hl [0] rfl) hP hD hS
    · rw [if_neg hc] at h
      refine lv_iconst (v := (nI 1)) hx hb d_R_flush_116 (by decide) ?_
      refine lv_goto hx hb d_R_flush_117 rfl ?_
      exact w_R_flush_121 h_p0 h_p0_m h_p0_d h_p0_fresh h_p0_young h_p0_dropped h_p0_released h_p0_owed h_p0_counted h_p0_inMemory h_p0_onDisk h_p0_thn F moved young' dropped' mem' dsk' fresh' released' owed' counted' inMemory' onDisk' thn' r ⟨cf, hr, hlk, hK, hN, hA⟩ x1 (nI 1) young dropped mem dsk fresh released owed counted inMemory onDisk thn h H locs ls (lv_sub hl [0] rfl) hP hD hS
set_option maxHeartbeats 4000000 in
set_option maxRecDepth 100000 in
theorem w_R_flush_56 {p : Program} {l : Launch} {e : Env} {s : State} {m : MethodId} {args : Array Value} {below : List Frame} {meth : Method} {c : Code} {D : va_G} {cI cZ : ClassId} {A : Nat → Prop} (h_p0 h_p0_m h_p0_d h_p0_fresh h_p0_young h_p0_dropped h_p0_released h_p0_owed h_p0_counted h_p0_inMemory h_p0_onDisk h_p0_thn : Nat) (F : Nat) (moved : Int32) (young' : (Nat → Int32)) (dropped' : (Nat → Int32)) (mem' : (Nat → Int32)) (dsk' : (Nat → Int32)) (fresh' : (Nat → Int32)) (released' : (Nat → Int32)) (owed' : (Nat → Int32)) (counted' : (Nat → Int32)) (inMemory' : (Nat → Int32)) (onDisk' : (Nat → Int32)) (thn' : (Nat → Int32)) (r : Int32) (cx : cx_ok p s m args meth c b_R_flush 4 o_R_flush "OrderedVolumeModel" (some .int) D cI cZ A) : ∀ (n : Nat) (x1 : Int32) (x2 : Int32) (x3 : Int32) (young : (Nat → Int32)) (dropped : (Nat → Int32)) (mem : (Nat → Int32)) (dsk : (Nat → Int32)) (fresh : (Nat → Int32)) (released : (Nat → Int32)) (owed : (Nat → Int32)) (counted : (Nat → Int32)) (inMemory : (Nat → Int32)) (onDisk : (Nat → Int32)) (thn : (Nat → Int32)), s_R_flush_56 F n x1 x2 x3 young dropped mem dsk fresh released owed counted inMemory onDisk thn = some (r, young', dropped', mem', dsk', fresh', released', owed', counted', inMemory', onDisk', thn') → wk_G p l e rm_R_flush s m args below meth c (sc_Qi below args s D cI cZ A (w_R cI cZ h_p0 h_p0_m h_p0_d h_p0_fresh h_p0_young h_p0_dropped h_p0_released h_p0_owed h_p0_counted h_p0_inMemory h_p0_onDisk h_p0_thn (mem') (dsk') (fresh') (young') (dropped') (released') (owed') (counted') (inMemory') (onDisk') (thn') moved) r) D A 4 56 [] [(0, .ref h_p0), (1, .int x1), (2, .int x2), (3, .int x3)] (w_R cI cZ h_p0 h_p0_m h_p0_d h_p0_fresh h_p0_young h_p0_dropped h_p0_released h_p0_owed h_p0_counted h_p0_inMemory h_p0_onDisk h_p0_thn mem dsk fresh young dropped released owed counted inMemory onDisk thn moved) := by
  obtain ⟨cf, hr, hlk, hK, hN, hA⟩ := cx
  have hx := cf.1
  have hb := cf.2.1
  have hown := cf.2.2.2.1
  have ht : ∀ w ∈ wA, w.before args s = true := fun w h => cf.2.2.2.2 w (List.mem_cons_of_mem _ h)
  intro n
  induction n with
  | zero => intro x1 x2 x3 young dropped mem dsk fresh released owed counted inMemory onDisk thn h; cases (show (none : Option (Int32 × (Nat → Int32) × (Nat → Int32) × (Nat → Int32) × (Nat → Int32) × (Nat → Int32) × (Nat → Int32) × (Nat → Int32) × (Nat → Int32) × (Nat → Int32) × (Nat → Int32) × (Nat → Int32))) = some _ from h)
  | succ n ih =>
    intro x1 x2 x3 young dropped mem dsk fresh released owed counted inMemory onDisk thn h H locs ls hl hP hD hS
    unfold s_R_flush_56 at h
    refine lv_iload_n hx hb d_R_flush_56 rfl (lv_at hl 3 rfl) ?_
    refine lv_iload_n hx hb d_R_flush_57 rfl (lv_at hl 1 rfl) ?_
    obtain ⟨r58, h58, h⟩ := bd_some h
    refine wk_Si (As := [.int x1]) (rest := [.int x3]) (wc := []) (w1 := []) (wr := [(h_p0, .inr (2, [.ref h_p0_m, .ref h_p0_d, .ref h_p0_fresh, .ref h_p0_young, .ref h_p0_dropped, .ref h_p0_released, .ref h_p0_owed, .ref h_p0_counted, .ref h_p0_inMemory, .ref h_p0_onDisk, .ref h_p0_thn, .int moved])), (h_p0_m, .inl (cI, 1080, .inl mem)), (h_p0_d, .inl (cI, 1080, .inl dsk)), (h_p0_fresh, .inl (cZ, 36, .inl fresh)), (h_p0_young, .inl (cZ, 288, .inl young)), (h_p0_dropped, .inl (cI, 36, .inl dropped)), (h_p0_released, .inl (cZ, 18, .inl released)), (h_p0_owed, .inl (cI, 18, .inl owed)), (h_p0_counted, .inl (cI, 18, .inl counted)), (h_p0_inMemory, .inl (cZ, 18, .inl inMemory)), (h_p0_onDisk, .inl (cZ, 18, .inl onDisk)), (h_p0_thn, .inl (cZ, 18, .inl thn))]) (wz := (w_R cI cZ h_p0 h_p0_m h_p0_d h_p0_fresh h_p0_young h_p0_dropped h_p0_released h_p0_owed h_p0_counted h_p0_inMemory h_p0_onDisk h_p0_thn mem dsk fresh young dropped released owed counted inMemory onDisk thn moved)) cf hK hN hA (c_R_size l D cI cZ 0 x1 r58 h58) k_R_55 ⟨rfl, rfl, by decide, by decide⟩ hl hP hD hS [] [0, 1, 2, 3, 4, 5, 6, 7, 8, 9, 10, 11] [0, 1, 2, 3, 4, 5, 6, 7, 8, 9, 10, 11] rfl rfl rfl (by decide) rfl rfl rfl rfl rfl (Nat.le_of_ble_eq_true rfl) rfl d_R_flush_58 (fun H locs hP hD hS => ?_)
    refine lv_icmp_ge hx hb d_R_flush_61 rfl (fun hc => ?_) (fun hc => ?_)
    · rw [if_pos hc] at h
      exact w_R_flush_97 h_p0 h_p0_m h_p0_d h_p0_fresh h_p0_young h_p0_dropped h_p0_released h_p0_owed h_p0_counted h_p0_inMemory h_p0_onDisk h_p0_thn F moved young' dropped' mem' dsk' fresh' released' owed' counted' inMemory' onDisk' thn' r ⟨cf, hr, hlk, hK, hN, hA⟩ x1 x2 young dropped mem dsk fresh released owed counted inMemory onDisk thn h H locs ls (lv_sub hl [0, 1, 2] rfl) hP hD hS
    · rw [if_neg hc] at h
      refine lv_iload_n hx hb d_R_flush_64 rfl (lv_at hl 2 rfl) ?_
      refine lv_iconst (v := (nI 1)) hx hb d_R_flush_65 (by decide) ?_
      refine lv_icmp_ne hx hb d_R_flush_66 rfl (fun hc => ?_) (fun hc => ?_)
      · rw [if_neg hc] at h
        exact w_R_flush_97 h_p0 h_p0_m h_p0_d h_p0_fresh h_p0_young h_p0_dropped h_p0_released h_p0_owed h_p0_counted h_p0_inMemory h_p0_onDisk h_p0_thn F moved young' dropped' mem' dsk' fresh' released' owed' counted' inMemory' onDisk' thn' r ⟨cf, hr, hlk, hK, hN, hA⟩ x1 x2 young dropped mem dsk fresh released owed counted inMemory onDisk thn h H locs ls (lv_sub hl [0, 1, 2] rfl) hP hD hS
      · rw [if_pos hc] at h
        refine lv_aload_n hx hb d_R_flush_69 rfl (lv_at hl 0 rfl) ?_
        refine va_get (D := D) (ci := 2) (v := .ref h_p0_d) (C := R_R) (T := F_R) (N := 12) hx hb ht in_R hown hK hP 0 rfl rfl 1 (by decide) (ht _ f_R_13) (fun _ h9 => h9) rfl d_R_flush_70 ?_
        refine lv_bipush (v := (nI 30)) hx hb d_R_flush_73 (by decide) ?_
        refine lv_iload_n hx hb d_R_flush_75 rfl (lv_at hl 1 rfl) ?_
        refine lv_imul hx hb d_R_flush_76 ?_
        refine lv_iload_n hx hb d_R_flush_77 rfl (lv_at hl 3 rfl) ?_
        refine lv_iadd hx hb d_R_flush_78 ?_
        refine lv_aload_n hx hb d_R_flush_79 rfl (lv_at hl 0 rfl) ?_
        refine va_get (D := D) (ci := 2) (v := .ref h_p0_m) (C := R_R) (T := F_R) (N := 12) hx hb ht in_R hown hK hP 0 rfl rfl 0 (by decide) (ht _ f_R_7) (fun _ h9 => h9) rfl d_R_flush_80 ?_
        refine lv_bipush (v := (nI 30)) hx hb d_R_flush_83 (by decide) ?_
        refine lv_iload_n hx hb d_R_flush_85 rfl (lv_at hl 1 rfl) ?_
        refine lv_imul hx hb d_R_flush_86 ?_
        refine lv_iload_n hx hb d_R_flush_87 rfl (lv_at hl 3 rfl) ?_
        refine lv_iadd hx hb d_R_flush_88 ?_
        obtain ⟨hin, h⟩ := gr_some h
        refine va_iald hx hb hK hP 1 0 rfl rfl hin d_R_flush_89 ?_
        generalize mem (((nI 30) * x1) + x3).toNatClampNeg = v89 at h ⊢
        obtain ⟨hin, h⟩ := ga_some h
        refine va_iast hx hb hK hP hD hS 2 0 rfl rfl hin d_R_flush_90 (fun H locs hP hD hS => ?_)
        have hP : va_P D clA (w_R cI cZ h_p0 h_p0_m h_p0_d h_p0_fresh h_p0_young h_p0_dropped h_p0_released h_p0_owed h_p0_counted h_p0_inMemory h_p0_onDisk h_p0_thn mem (upd dsk (((nI 30) * x1) + x3).toNatClampNeg v89) fresh young dropped released owed counted inMemory onDisk thn moved) H := hP
        have hD : va_D A (w_R cI cZ h_p0 h_p0_m h_p0_d h_p0_fresh h_p0_young h_p0_dropped h_p0_released h_p0_owed h_p0_counted h_p0_inMemory h_p0_onDisk h_p0_thn mem (upd dsk (((nI 30) * x1) + x3).toNatClampNeg v89) fresh young dropped released owed counted inMemory onDisk thn moved) := hD
        refine lv_iinc (k := 3) (v := (x3 + (nI 1))) (lv' := [(3, .int (x3 + (nI 1))), (0, .ref h_p0), (1, .int x1), (2, .int x2)]) hx hb d_R_flush_91 hl rfl rfl (by decide) rfl (fun ls hl => ?_)
        refine lv_goto hx hb d_R_flush_94 rfl ?_
        exact ih x1 x2 (x3 + (nI 1)) young dropped mem (upd dsk (((nI 30) * x1) + x3).toNatClampNeg v89) fresh released owed counted inMemory onDisk thn h H locs ls (lv_sub hl [1, 2, 3, 0] rfl) hP hD hS
set_option maxHeartbeats 4000000 in
set_option maxRecDepth 100000 in
theorem w_R_flush_42 {p : Program} {l : Launch} {e : Env} {s : State} {m : MethodId} {args : Array Value} {below : List Frame} {meth : Method} {c : Code} {D : va_G} {cI cZ : ClassId} {A : Nat → Prop} (h_p0 h_p0_m h_p0_d h_p0_fresh h_p0_young h_p0_dropped h_p0_released h_p0_owed h_p0_counted h_p0_inMemory h_p0_onDisk h_p0_thn : Nat) (F : Nat) (moved : Int32) (young' : (Nat → Int32)) (dropped' : (Nat → Int32)) (mem' : (Nat → Int32)) (dsk' : (Nat → Int32)) (fresh' : (Nat → Int32)) (released' : (Nat → Int32)) (owed' : (Nat → Int32)) (counted' : (Nat → Int32)) (inMemory' : (Nat → Int32)) (onDisk' : (Nat → Int32)) (thn' : (Nat → Int32)) (r : Int32) (cx : cx_ok p s m args meth c b_R_flush 4 o_R_flush "OrderedVolumeModel" (some .int) D cI cZ A) : ∀ (x1 : Int32) (t0 : Int32) (young : (Nat → Int32)) (dropped : (Nat → Int32)) (mem : (Nat → Int32)) (dsk : (Nat → Int32)) (fresh : (Nat → Int32)) (released : (Nat → Int32)) (owed : (Nat → Int32)) (counted : (Nat → Int32)) (inMemory : (Nat → Int32)) (onDisk : (Nat → Int32)) (thn : (Nat → Int32)), s_R_flush_42 F x1 t0 young dropped mem dsk fresh released owed counted inMemory onDisk thn = some (r, young', dropped', mem', dsk', fresh', released', owed', counted', inMemory', onDisk', thn') → wk_G p l e rm_R_flush s m args below meth c (sc_Qi below args s D cI cZ A (w_R cI cZ h_p0 h_p0_m h_p0_d h_p0_fresh h_p0_young h_p0_dropped h_p0_released h_p0_owed h_p0_counted h_p0_inMemory h_p0_onDisk h_p0_thn (mem') (dsk') (fresh') (young') (dropped') (released') (owed') (counted') (inMemory') (onDisk') (thn') moved) r) D A 4 42 [.int t0] [(0, .ref h_p0), (1, .int x1)] (w_R cI cZ h_p0 h_p0_m h_p0_d h_p0_fresh h_p0_young h_p0_dropped h_p0_released h_p0_owed h_p0_counted h_p0_inMemory h_p0_onDisk h_p0_thn mem dsk fresh young dropped released owed counted inMemory onDisk thn moved) := by
  obtain ⟨cf, hr, hlk, hK, hN, hA⟩ := cx
  have hx := cf.1
  have hb := cf.2.1
  have hown := cf.2.2.2.1
  have ht : ∀ w ∈ wA, w.before args s = true := fun w h => cf.2.2.2.2 w (List.mem_cons_of_mem _ h)
  intro x1 t0 young dropped mem dsk fresh released owed counted inMemory onDisk thn h H locs ls hl hP hD hS
  unfold s_R_flush_42 at h
  refine lv_istore_n (lv' := [(2, .int t0), (0, .ref h_p0), (1, .int x1)]) hx hb d_R_flush_42 rfl hl (by decide) rfl (fun ls hl => ?_)
  refine lv_iload_n hx hb d_R_flush_43 rfl (lv_at hl 0 rfl) ?_
  refine lv_iconst (v := (nI 2)) hx hb d_R_flush_44 (by decide) ?_
  refine lv_icmp_ne hx hb d_R_flush_45 rfl (fun hc => ?_) (fun hc => ?_)
  · rw [if_neg hc] at h
    refine lv_iconst (v := (nI 0)) hx hb d_R_flush_54 (by decide) ?_
    refine lv_istore_n (lv' := [(3, .int (nI 0)), (2, .int t0), (0, .ref h_p0), (1, .int x1)]) hx hb d_R_flush_55 rfl hl (by decide) rfl (fun ls hl => ?_)
    exact w_R_flush_56 h_p0 h_p0_m h_p0_d h_p0_fresh h_p0_young h_p0_dropped h_p0_released h_p0_owed h_p0_counted h_p0_inMemory h_p0_onDisk h_p0_thn F moved young' dropped' mem' dsk' fresh' released' owed' counted' inMemory' onDisk' thn' r ⟨cf, hr, hlk, hK, hN, hA⟩ F x1 t0 (nI 0) young dropped mem dsk fresh released owed counted inMemory onDisk thn h H locs ls (lv_sub hl [2, 3, 1, 0] rfl) hP hD hS
  · rw [if_pos hc] at h
    refine lv_aload_n hx hb d_R_flush_48 rfl (lv_at hl 1 rfl) ?_
    refine lv_iload_n hx hb d_R_flush_49 rfl (lv_at hl 2 rfl) ?_
    obtain ⟨⟨r50, dropped_50, mem_50, dsk_50, fresh_50, released_50, owed_50, counted_50, inMemory_50, onDisk_50, thn_50⟩, h50, h⟩ := bd_some h
    dsimp only at h
    refine wk_Vi (As := [.int x1]) (rest := []) (wc := (w_R cI cZ h_p0 h_p0_m h_p0_d h_p0_fresh h_p0_young h_p0_dropped h_p0_released h_p0_owed h_p0_counted h_p0_inMemory h_p0_onDisk h_p0_thn mem dsk fresh young dropped released owed counted inMemory onDisk thn moved)) (w1 := (w_R cI cZ h_p0 h_p0_m h_p0_d h_p0_fresh h_p0_young h_p0_dropped h_p0_released h_p0_owed h_p0_counted h_p0_inMemory h_p0_onDisk h_p0_thn mem_50 dsk_50 fresh_50 young dropped_50 released_50 owed_50 counted_50 inMemory_50 onDisk_50 thn_50 moved)) (wr := []) (wz := (w_R cI cZ h_p0 h_p0_m h_p0_d h_p0_fresh h_p0_young h_p0_dropped h_p0_released h_p0_owed h_p0_counted h_p0_inMemory h_p0_onDisk h_p0_thn mem_50 dsk_50 fresh_50 young dropped_50 released_50 owed_50 counted_50 inMemory_50 onDisk_50 thn_50 moved)) cf hK hN hA (c_R_flushEntries l D cI cZ h_p0 h_p0_m h_p0_d h_p0_fresh h_p0_young h_p0_dropped h_p0_released h_p0_owed h_p0_counted h_p0_inMemory h_p0_onDisk h_p0_thn F mem dsk fresh young dropped released owed counted inMemory onDisk thn moved dropped_50 mem_50 dsk_50 fresh_50 released_50 owed_50 counted_50 inMemory_50 onDisk_50 thn_50 x1 r50 h50) k_R_151 ⟨rfl, rfl, by decide, by decide⟩ 2 rfl rfl rfl hl hP hD hS [0, 1, 2, 3, 4, 5, 6, 7, 8, 9, 10, 11] [] [0, 1, 2, 3, 4, 5, 6, 7, 8, 9, 10, 11] rfl rfl rfl (by decide) rfl rfl rfl rfl rfl (Nat.le_of_ble_eq_true rfl) rfl d_R_flush_50 (fun H locs hP hD hS => ?_)
    cases h
    exact sc_iret cf hr hlk hK hP hD hS d_R_flush_53
set_option maxHeartbeats 4000000 in
set_option maxRecDepth 100000 in
theorem c_R_flush (l : Launch) (D : va_G) (cI cZ : ClassId) (h_p0 h_p0_m h_p0_d h_p0_fresh h_p0_young h_p0_dropped h_p0_released h_p0_owed h_p0_counted h_p0_inMemory h_p0_onDisk h_p0_thn : Nat) (F : Nat) (mem : (Nat → Int32)) (dsk : (Nat → Int32)) (fresh : (Nat → Int32)) (young : (Nat → Int32)) (dropped : (Nat → Int32)) (released : (Nat → Int32)) (owed : (Nat → Int32)) (counted : (Nat → Int32)) (inMemory : (Nat → Int32)) (onDisk : (Nat → Int32)) (thn : (Nat → Int32)) (moved : Int32) (young' : (Nat → Int32)) (dropped' : (Nat → Int32)) (mem' : (Nat → Int32)) (dsk' : (Nat → Int32)) (fresh' : (Nat → Int32)) (released' : (Nat → Int32)) (owed' : (Nat → Int32)) (counted' : (Nat → Int32)) (inMemory' : (Nat → Int32)) (onDisk' : (Nat → Int32)) (thn' : (Nat → Int32)) (x1 : Int32) (r : Int32) (h : s_R_flush F x1 young dropped mem dsk fresh released owed counted inMemory onDisk thn = some (r, young', dropped', mem', dsk', fresh', released', owed', counted', inMemory', onDisk', thn')) : sc_i l y_R_flush (o_R_flush :: wA) rm_R_flush D cI cZ [.ref h_p0, .int x1] (w_R cI cZ h_p0 h_p0_m h_p0_d h_p0_fresh h_p0_young h_p0_dropped h_p0_released h_p0_owed h_p0_counted h_p0_inMemory h_p0_onDisk h_p0_thn mem dsk fresh young dropped released owed counted inMemory onDisk thn moved) (w_R cI cZ h_p0 h_p0_m h_p0_d h_p0_fresh h_p0_young h_p0_dropped h_p0_released h_p0_owed h_p0_counted h_p0_inMemory h_p0_onDisk h_p0_thn (mem') (dsk') (fresh') (young') (dropped') (released') (owed') (counted') (inMemory') (onDisk') (thn') moved) r := by
  refine sc_i_of (cc := b_R_flush) (maxL := 4) (ret := (some .int)) (by decide) rfl (Nat.le_of_ble_eq_true rfl) ?_
  intro p e s m below meth c A cf hr hlk hK hN hA H locs ls hl hP hD hS
  have hx := cf.1
  have hb := cf.2.1
  have hown := cf.2.2.2.1
  have ht : ∀ w ∈ wA, w.before _ s = true := fun w h => cf.2.2.2.2 w (List.mem_cons_of_mem _ h)
  unfold s_R_flush at h
  have hl : lv_has ls 4 [(0, .ref h_p0), (1, .int x1)] := hl
  refine lv_iload_n hx hb d_R_flush_0 rfl (lv_at hl 1 rfl) ?_
  refine lv_if_lt hx hb d_R_flush_1 rfl (fun hc => ?_) (fun hc => ?_)
  · rw [if_pos hc] at h
    refine lv_iconst (v := (-1)) hx hb d_R_flush_10 (by decide) ?_
    cases h
    exact sc_iret cf hr hlk hK hP hD hS d_R_flush_11
  · rw [if_neg hc] at h
    refine lv_iload_n hx hb d_R_flush_4 rfl (lv_at hl 1 rfl) ?_
    refine lv_bipush (v := (nI 35)) hx hb d_R_flush_5 (by decide) ?_
    refine lv_icmp_le hx hb d_R_flush_7 rfl (fun hc => ?_) (fun hc => ?_)
    · rw [if_pos hc] at h
      refine lv_iload_n hx hb d_R_flush_12 rfl (lv_at hl 1 rfl) ?_
      refine lv_bipush (v := (nI 12)) hx hb d_R_flush_13 (by decide) ?_
      refine lv_irem hx hb d_R_flush_15 (by decide) ?_
      refine lv_iconst (v := (nI 1)) hx hb d_R_flush_16 (by decide) ?_
      refine lv_icmp_ne hx hb d_R_flush_17 rfl (fun hc => ?_) (fun hc => ?_)
      · rw [if_neg hc] at h
        refine lv_iload_n hx hb d_R_flush_26 rfl (lv_at hl 1 rfl) ?_
        refine lv_bipush (v := (nI 12)) hx hb d_R_flush_27 (by decide) ?_
        refine lv_irem hx hb d_R_flush_29 (by decide) ?_
        refine lv_if_ne hx hb d_R_flush_30 rfl (fun hc => ?_) (fun hc => ?_)
        · rw [if_neg hc] at h
          refine lv_aload_n hx hb d_R_flush_37 rfl (lv_at hl 0 rfl) ?_
          refine lv_iload_n hx hb d_R_flush_38 rfl (lv_at hl 1 rfl) ?_
          obtain ⟨r39, h39, h⟩ := bd_some h
          refine wk_Vi (As := [.int x1]) (rest := []) (wc := (w_R cI cZ h_p0 h_p0_m h_p0_d h_p0_fresh h_p0_young h_p0_dropped h_p0_released h_p0_owed h_p0_counted h_p0_inMemory h_p0_onDisk h_p0_thn mem dsk fresh young dropped released owed counted inMemory onDisk thn moved)) (w1 := (w_R cI cZ h_p0 h_p0_m h_p0_d h_p0_fresh h_p0_young h_p0_dropped h_p0_released h_p0_owed h_p0_counted h_p0_inMemory h_p0_onDisk h_p0_thn mem dsk fresh young dropped released owed counted inMemory onDisk thn moved)) (wr := []) (wz := (w_R cI cZ h_p0 h_p0_m h_p0_d h_p0_fresh h_p0_young h_p0_dropped h_p0_released h_p0_owed h_p0_counted h_p0_inMemory h_p0_onDisk h_p0_thn mem dsk fresh young dropped released owed counted inMemory onDisk thn moved)) cf hK hN hA (c_R_owner l D cI cZ h_p0 h_p0_m h_p0_d h_p0_fresh h_p0_young h_p0_dropped h_p0_released h_p0_owed h_p0_counted h_p0_inMemory h_p0_onDisk h_p0_thn F mem dsk fresh young dropped released owed counted inMemory onDisk thn moved x1 r39 h39) k_R_93 ⟨rfl, rfl, by decide, by decide⟩ 2 rfl rfl rfl hl hP hD hS [0, 1, 2, 3, 4, 5, 6, 7, 8, 9, 10, 11] [] [0, 1, 2, 3, 4, 5, 6, 7, 8, 9, 10, 11] rfl rfl rfl (by decide) rfl rfl rfl rfl rfl (Nat.le_of_ble_eq_true rfl) rfl d_R_flush_39 (fun H locs hP hD hS => ?_)
          exact w_R_flush_42 h_p0 h_p0_m h_p0_d h_p0_fresh h_p0_young h_p0_dropped h_p0_released h_p0_owed h_p0_counted h_p0_inMemory h_p0_onDisk h_p0_thn F moved young' dropped' mem' dsk' fresh' released' owed' counted' inMemory' onDisk' thn' r ⟨cf, hr, hlk, hK, hN, hA⟩ x1 r39 young dropped mem dsk fresh released owed counted inMemory onDisk thn h H locs ls (lv_sub hl [0, 1] rfl) hP hD hS
        · rw [if_pos hc] at h
          refine lv_iconst (v := (nI 1)) hx hb d_R_flush_33 (by decide) ?_
          refine lv_goto hx hb d_R_flush_34 rfl ?_
          exact w_R_flush_42 h_p0 h_p0_m h_p0_d h_p0_fresh h_p0_young h_p0_dropped h_p0_released h_p0_owed h_p0_counted h_p0_inMemory h_p0_onDisk h_p0_thn F moved young' dropped' mem' dsk' fresh' released' owed' counted' inMemory' onDisk' thn' r ⟨cf, hr, hlk, hK, hN, hA⟩ x1 (nI 1) young dropped mem dsk fresh released owed counted inMemory onDisk thn h H locs ls (lv_sub hl [0, 1] rfl) hP hD hS
      · rw [if_pos hc] at h
        refine lv_aload_n hx hb d_R_flush_20 rfl (lv_at hl 0 rfl) ?_
        refine lv_iload_n hx hb d_R_flush_21 rfl (lv_at hl 1 rfl) ?_
        obtain ⟨⟨r22, young_22, dropped_22, mem_22, dsk_22, released_22, owed_22, counted_22⟩, h22, h⟩ := bd_some h
        dsimp only at h
        refine wk_Vi (As := [.int x1]) (rest := []) (wc := (w_R cI cZ h_p0 h_p0_m h_p0_d h_p0_fresh h_p0_young h_p0_dropped h_p0_released h_p0_owed h_p0_counted h_p0_inMemory h_p0_onDisk h_p0_thn mem dsk fresh young dropped released owed counted inMemory onDisk thn moved)) (w1 := (w_R cI cZ h_p0 h_p0_m h_p0_d h_p0_fresh h_p0_young h_p0_dropped h_p0_released h_p0_owed h_p0_counted h_p0_inMemory h_p0_onDisk h_p0_thn mem_22 dsk_22 fresh young_22 dropped_22 released_22 owed_22 counted_22 inMemory onDisk thn moved)) (wr := []) (wz := (w_R cI cZ h_p0 h_p0_m h_p0_d h_p0_fresh h_p0_young h_p0_dropped h_p0_released h_p0_owed h_p0_counted h_p0_inMemory h_p0_onDisk h_p0_thn mem_22 dsk_22 fresh young_22 dropped_22 released_22 owed_22 counted_22 inMemory onDisk thn moved)) cf hK hN hA (c_R_flushTable l D cI cZ h_p0 h_p0_m h_p0_d h_p0_fresh h_p0_young h_p0_dropped h_p0_released h_p0_owed h_p0_counted h_p0_inMemory h_p0_onDisk h_p0_thn F mem dsk fresh young dropped released owed counted inMemory onDisk thn moved young_22 dropped_22 mem_22 dsk_22 released_22 owed_22 counted_22 x1 r22 h22) k_R_148 ⟨rfl, rfl, by decide, by decide⟩ 2 rfl rfl rfl hl hP hD hS [0, 1, 2, 3, 4, 5, 6, 7, 8, 9, 10, 11] [] [0, 1, 2, 3, 4, 5, 6, 7, 8, 9, 10, 11] rfl rfl rfl (by decide) rfl rfl rfl rfl rfl (Nat.le_of_ble_eq_true rfl) rfl d_R_flush_22 (fun H locs hP hD hS => ?_)
        cases h
        exact sc_iret cf hr hlk hK hP hD hS d_R_flush_25
    · rw [if_neg hc] at h
      refine lv_iconst (v := (-1)) hx hb d_R_flush_10 (by decide) ?_
      cases h
      exact sc_iret cf hr hlk hK hP hD hS d_R_flush_11
set_option maxHeartbeats 4000000 in
set_option maxRecDepth 100000 in
theorem w_R_sync_42 {p : Program} {l : Launch} {e : Env} {s : State} {m : MethodId} {args : Array Value} {below : List Frame} {meth : Method} {c : Code} {D : va_G} {cI cZ : ClassId} {A : Nat → Prop} (h_p0 h_p0_m h_p0_d h_p0_fresh h_p0_young h_p0_dropped h_p0_released h_p0_owed h_p0_counted h_p0_inMemory h_p0_onDisk h_p0_thn : Nat) (F : Nat) (young' : (Nat → Int32)) (dropped' : (Nat → Int32)) (mem' : (Nat → Int32)) (dsk' : (Nat → Int32)) (fresh' : (Nat → Int32)) (released' : (Nat → Int32)) (owed' : (Nat → Int32)) (counted' : (Nat → Int32)) (inMemory' : (Nat → Int32)) (onDisk' : (Nat → Int32)) (thn' : (Nat → Int32)) (moved' : Int32) (r : Int32) (cx : cx_ok p s m args meth c b_R_sync 3 o_R_sync "OrderedVolumeModel" (some .int) D cI cZ A) : ∀ (x1 : Int32) (young : (Nat → Int32)) (dropped : (Nat → Int32)) (mem : (Nat → Int32)) (dsk : (Nat → Int32)) (fresh : (Nat → Int32)) (released : (Nat → Int32)) (owed : (Nat → Int32)) (counted : (Nat → Int32)) (inMemory : (Nat → Int32)) (onDisk : (Nat → Int32)) (thn : (Nat → Int32)) (moved : Int32), s_R_sync_42 F x1 young dropped mem dsk fresh released owed counted inMemory onDisk thn moved = some (r, young', dropped', mem', dsk', fresh', released', owed', counted', inMemory', onDisk', thn', moved') → wk_G p l e rm_R_sync s m args below meth c (sc_Qi below args s D cI cZ A (w_R cI cZ h_p0 h_p0_m h_p0_d h_p0_fresh h_p0_young h_p0_dropped h_p0_released h_p0_owed h_p0_counted h_p0_inMemory h_p0_onDisk h_p0_thn (mem') (dsk') (fresh') (young') (dropped') (released') (owed') (counted') (inMemory') (onDisk') (thn') (moved')) r) D A 3 42 [] [(0, .ref h_p0), (1, .int x1)] (w_R cI cZ h_p0 h_p0_m h_p0_d h_p0_fresh h_p0_young h_p0_dropped h_p0_released h_p0_owed h_p0_counted h_p0_inMemory h_p0_onDisk h_p0_thn mem dsk fresh young dropped released owed counted inMemory onDisk thn moved) := by
  obtain ⟨cf, hr, hlk, hK, hN, hA⟩ := cx
  have hx := cf.1
  have hb := cf.2.1
  have hown := cf.2.2.2.1
  have ht : ∀ w ∈ wA, w.before args s = true := fun w h => cf.2.2.2.2 w (List.mem_cons_of_mem _ h)
  intro x1 young dropped mem dsk fresh released owed counted inMemory onDisk thn moved h H locs ls hl hP hD hS
  unfold s_R_sync_42 at h
  refine lv_aload_n hx hb d_R_sync_42 rfl (lv_at hl 0 rfl) ?_
  refine lv_iconst (v := (nI 0)) hx hb d_R_sync_43 (by decide) ?_
  have hz : ((nI 0) : Int32) = 0 ∨ ((nI 0) : Int32) = 1 := by decide
  refine va_put (D := D) (ci := 2) (v := .int (nI 0)) (ty := .boolean) (C := R_R) (T := F_R) (N := 12) hx hb ht in_R t_R t_R_ok n_R hown hK hP hD hS 0 rfl rfl 11 (by decide) (ht _ f_R_141) (fun _ h9 => h9) rfl (by decide +kernel) (nz_b hz) (fz_b hz) (Nat.le_of_ble_eq_true rfl) d_R_sync_44 (fun H locs hP hD hS => ?_)
  have hP : va_P D clA (w_R cI cZ h_p0 h_p0_m h_p0_d h_p0_fresh h_p0_young h_p0_dropped h_p0_released h_p0_owed h_p0_counted h_p0_inMemory h_p0_onDisk h_p0_thn mem dsk fresh young dropped released owed counted inMemory onDisk thn (nI 0)) H := hP
  have hD : va_D A (w_R cI cZ h_p0 h_p0_m h_p0_d h_p0_fresh h_p0_young h_p0_dropped h_p0_released h_p0_owed h_p0_counted h_p0_inMemory h_p0_onDisk h_p0_thn mem dsk fresh young dropped released owed counted inMemory onDisk thn (nI 0)) := hD
  refine lv_iload_n hx hb d_R_sync_47 rfl (lv_at hl 1 rfl) ?_
  cases h
  exact sc_iret cf hr hlk hK hP hD hS d_R_sync_48
set_option maxHeartbeats 4000000 in
set_option maxRecDepth 100000 in
theorem w_R_sync_18 {p : Program} {l : Launch} {e : Env} {s : State} {m : MethodId} {args : Array Value} {below : List Frame} {meth : Method} {c : Code} {D : va_G} {cI cZ : ClassId} {A : Nat → Prop} (h_p0 h_p0_m h_p0_d h_p0_fresh h_p0_young h_p0_dropped h_p0_released h_p0_owed h_p0_counted h_p0_inMemory h_p0_onDisk h_p0_thn : Nat) (F : Nat) (young' : (Nat → Int32)) (dropped' : (Nat → Int32)) (mem' : (Nat → Int32)) (dsk' : (Nat → Int32)) (fresh' : (Nat → Int32)) (released' : (Nat → Int32)) (owed' : (Nat → Int32)) (counted' : (Nat → Int32)) (inMemory' : (Nat → Int32)) (onDisk' : (Nat → Int32)) (thn' : (Nat → Int32)) (moved' : Int32) (r : Int32) (k2 : Int32 → (Nat → Int32) → (Nat → Int32) → (Nat → Int32) → (Nat → Int32) → (Nat → Int32) → (Nat → Int32) → (Nat → Int32) → (Nat → Int32) → (Nat → Int32) → (Nat → Int32) → (Nat → Int32) → Int32 → Option (Int32 × (Nat → Int32) × (Nat → Int32) × (Nat → Int32) × (Nat → Int32) × (Nat → Int32) × (Nat → Int32) × (Nat → Int32) × (Nat → Int32) × (Nat → Int32) × (Nat → Int32) × (Nat → Int32) × Int32)) (cx : cx_ok p s m args meth c b_R_sync 3 o_R_sync "OrderedVolumeModel" (some .int) D cI cZ A) (h2 : (∀ (x1 : Int32) (young : (Nat → Int32)) (dropped : (Nat → Int32)) (mem : (Nat → Int32)) (dsk : (Nat → Int32)) (fresh : (Nat → Int32)) (released : (Nat → Int32)) (owed : (Nat → Int32)) (counted : (Nat → Int32)) (inMemory : (Nat → Int32)) (onDisk : (Nat → Int32)) (thn : (Nat → Int32)) (moved : Int32), k2 x1 young dropped mem dsk fresh released owed counted inMemory onDisk thn moved = some (r, young', dropped', mem', dsk', fresh', released', owed', counted', inMemory', onDisk', thn', moved') → wk_G p l e rm_R_sync s m args below meth c (sc_Qi below args s D cI cZ A (w_R cI cZ h_p0 h_p0_m h_p0_d h_p0_fresh h_p0_young h_p0_dropped h_p0_released h_p0_owed h_p0_counted h_p0_inMemory h_p0_onDisk h_p0_thn (mem') (dsk') (fresh') (young') (dropped') (released') (owed') (counted') (inMemory') (onDisk') (thn') (moved')) r) D A 3 2 [] [(0, .ref h_p0), (1, .int x1)] (w_R cI cZ h_p0 h_p0_m h_p0_d h_p0_fresh h_p0_young h_p0_dropped h_p0_released h_p0_owed h_p0_counted h_p0_inMemory h_p0_onDisk h_p0_thn mem dsk fresh young dropped released owed counted inMemory onDisk thn moved))) : ∀ (n : Nat) (x1 : Int32) (x2 : Int32) (young : (Nat → Int32)) (dropped : (Nat → Int32)) (mem : (Nat → Int32)) (dsk : (Nat → Int32)) (fresh : (Nat → Int32)) (released : (Nat → Int32)) (owed : (Nat → Int32)) (counted : (Nat → Int32)) (inMemory : (Nat → Int32)) (onDisk : (Nat → Int32)) (thn : (Nat → Int32)) (moved : Int32), s_R_sync_18 F k2 n x1 x2 young dropped mem dsk fresh released owed counted inMemory onDisk thn moved = some (r, young', dropped', mem', dsk', fresh', released', owed', counted', inMemory', onDisk', thn', moved') → wk_G p l e rm_R_sync s m args below meth c (sc_Qi below args s D cI cZ A (w_R cI cZ h_p0 h_p0_m h_p0_d h_p0_fresh h_p0_young h_p0_dropped h_p0_released h_p0_owed h_p0_counted h_p0_inMemory h_p0_onDisk h_p0_thn (mem') (dsk') (fresh') (young') (dropped') (released') (owed') (counted') (inMemory') (onDisk') (thn') (moved')) r) D A 3 18 [] [(0, .ref h_p0), (1, .int x1), (2, .int x2)] (w_R cI cZ h_p0 h_p0_m h_p0_d h_p0_fresh h_p0_young h_p0_dropped h_p0_released h_p0_owed h_p0_counted h_p0_inMemory h_p0_onDisk h_p0_thn mem dsk fresh young dropped released owed counted inMemory onDisk thn moved) := by
  obtain ⟨cf, hr, hlk, hK, hN, hA⟩ := cx
  have hx := cf.1
  have hb := cf.2.1
  have hown := cf.2.2.2.1
  have ht : ∀ w ∈ wA, w.before args s = true := fun w h => cf.2.2.2.2 w (List.mem_cons_of_mem _ h)
  intro n
  induction n with
  | zero => intro x1 x2 young dropped mem dsk fresh released owed counted inMemory onDisk thn moved h; cases (show (none : Option (Int32 × (Nat → Int32) × (Nat → Int32) × (Nat → Int32) × (Nat → Int32) × (Nat → Int32) × (Nat → Int32) × (Nat → Int32) × (Nat → Int32) × (Nat → Int32) × (Nat → Int32) × (Nat → Int32) × Int32)) = some _ from h)
  | succ n ih =>
    intro x1 x2 young dropped mem dsk fresh released owed counted inMemory onDisk thn moved h H locs ls hl hP hD hS
    unfold s_R_sync_18 at h
    refine lv_iload_n hx hb d_R_sync_18 rfl (lv_at hl 2 rfl) ?_
    refine lv_bipush (v := (nI 36)) hx hb d_R_sync_19 (by decide) ?_
    refine lv_icmp_ge hx hb d_R_sync_21 rfl (fun hc => ?_) (fun hc => ?_)
    · rw [if_pos hc] at h
      refine lv_iinc (k := 1) (v := (x1 + (nI 1))) (lv' := [(1, .int (x1 + (nI 1))), (0, .ref h_p0), (2, .int x2)]) hx hb d_R_sync_36 hl rfl rfl (by decide) rfl (fun ls hl => ?_)
      refine lv_goto hx hb d_R_sync_39 rfl ?_
      exact h2 (x1 + (nI 1)) young dropped mem dsk fresh released owed counted inMemory onDisk thn moved h H locs ls (lv_sub hl [1, 0] rfl) hP hD hS
    · rw [if_neg hc] at h
      refine lv_aload_n hx hb d_R_sync_24 rfl (lv_at hl 0 rfl) ?_
      refine lv_iload_n hx hb d_R_sync_25 rfl (lv_at hl 2 rfl) ?_
      obtain ⟨⟨r26, young_26, dropped_26, mem_26, dsk_26, fresh_26, released_26, owed_26, counted_26, inMemory_26, onDisk_26, thn_26⟩, h26, h⟩ := bd_some h
      dsimp only at h
      refine wk_Vi (As := [.int x2]) (rest := []) (wc := (w_R cI cZ h_p0 h_p0_m h_p0_d h_p0_fresh h_p0_young h_p0_dropped h_p0_released h_p0_owed h_p0_counted h_p0_inMemory h_p0_onDisk h_p0_thn mem dsk fresh young dropped released owed counted inMemory onDisk thn moved)) (w1 := (w_R cI cZ h_p0 h_p0_m h_p0_d h_p0_fresh h_p0_young h_p0_dropped h_p0_released h_p0_owed h_p0_counted h_p0_inMemory h_p0_onDisk h_p0_thn mem_26 dsk_26 fresh_26 young_26 dropped_26 released_26 owed_26 counted_26 inMemory_26 onDisk_26 thn_26 moved)) (wr := []) (wz := (w_R cI cZ h_p0 h_p0_m h_p0_d h_p0_fresh h_p0_young h_p0_dropped h_p0_released h_p0_owed h_p0_counted h_p0_inMemory h_p0_onDisk h_p0_thn mem_26 dsk_26 fresh_26 young_26 dropped_26 released_26 owed_26 counted_26 inMemory_26 onDisk_26 thn_26 moved)) cf hK hN hA (c_R_flush l D cI cZ h_p0 h_p0_m h_p0_d h_p0_fresh h_p0_young h_p0_dropped h_p0_released h_p0_owed h_p0_counted h_p0_inMemory h_p0_onDisk h_p0_thn F mem dsk fresh young dropped released owed counted inMemory onDisk thn moved young_26 dropped_26 mem_26 dsk_26 fresh_26 released_26 owed_26 counted_26 inMemory_26 onDisk_26 thn_26 x2 r26 h26) k_R_166 ⟨rfl, rfl, by decide, by decide⟩ 2 rfl rfl rfl hl hP hD hS [0, 1, 2, 3, 4, 5, 6, 7, 8, 9, 10, 11] [] [0, 1, 2, 3, 4, 5, 6, 7, 8, 9, 10, 11] rfl rfl rfl (by decide) rfl rfl rfl rfl rfl (Nat.le_of_ble_eq_true rfl) rfl d_R_sync_26 (fun H locs hP hD hS => ?_)
      refine lv_pop hx hb d_R_sync_29 rfl ?_
      refine lv_iinc (k := 2) (v := (x2 + (nI 1))) (lv' := [(2, .int (x2 + (nI 1))), (0, .ref h_p0), (1, .int x1)]) hx hb d_R_sync_30 hl rfl rfl (by decide) rfl (fun ls hl => ?_)
      refine lv_goto hx hb d_R_sync_33 rfl ?_
      exact ih x1 (x2 + (nI 1)) young_26 dropped_26 mem_26 dsk_26 fresh_26 released_26 owed_26 counted_26 inMemory_26 onDisk_26 thn_26 moved h H locs ls (lv_sub hl [1, 2, 0] rfl) hP hD hS
set_option maxHeartbeats 4000000 in
set_option maxRecDepth 100000 in
theorem w_R_sync_2 {p : Program} {l : Launch} {e : Env} {s : State} {m : MethodId} {args : Array Value} {below : List Frame} {meth : Method} {c : Code} {D : va_G} {cI cZ : ClassId} {A : Nat → Prop} (h_p0 h_p0_m h_p0_d h_p0_fresh h_p0_young h_p0_dropped h_p0_released h_p0_owed h_p0_counted h_p0_inMemory h_p0_onDisk h_p0_thn : Nat) (F : Nat) (young' : (Nat → Int32)) (dropped' : (Nat → Int32)) (mem' : (Nat → Int32)) (dsk' : (Nat → Int32)) (fresh' : (Nat → Int32)) (released' : (Nat → Int32)) (owed' : (Nat → Int32)) (counted' : (Nat → Int32)) (inMemory' : (Nat → Int32)) (onDisk' : (Nat → Int32)) (thn' : (Nat → Int32)) (moved' : Int32) (r : Int32) (cx : cx_ok p s m args meth c b_R_sync 3 o_R_sync "OrderedVolumeModel" (some .int) D cI cZ A) : ∀ (n : Nat) (x1 : Int32) (young : (Nat → Int32)) (dropped : (Nat → Int32)) (mem : (Nat → Int32)) (dsk : (Nat → Int32)) (fresh : (Nat → Int32)) (released : (Nat → Int32)) (owed : (Nat → Int32)) (counted : (Nat → Int32)) (inMemory : (Nat → Int32)) (onDisk : (Nat → Int32)) (thn : (Nat → Int32)) (moved : Int32), s_R_sync_2 F n x1 young dropped mem dsk fresh released owed counted inMemory onDisk thn moved = some (r, young', dropped', mem', dsk', fresh', released', owed', counted', inMemory', onDisk', thn', moved') → wk_G p l e rm_R_sync s m args below meth c (sc_Qi below args s D cI cZ A (w_R cI cZ h_p0 h_p0_m h_p0_d h_p0_fresh h_p0_young h_p0_dropped h_p0_released h_p0_owed h_p0_counted h_p0_inMemory h_p0_onDisk h_p0_thn (mem') (dsk') (fresh') (young') (dropped') (released') (owed') (counted') (inMemory') (onDisk') (thn') (moved')) r) D A 3 2 [] [(0, .ref h_p0), (1, .int x1)] (w_R cI cZ h_p0 h_p0_m h_p0_d h_p0_fresh h_p0_young h_p0_dropped h_p0_released h_p0_owed h_p0_counted h_p0_inMemory h_p0_onDisk h_p0_thn mem dsk fresh young dropped released owed counted inMemory onDisk thn moved) := by
  obtain ⟨cf, hr, hlk, hK, hN, hA⟩ := cx
  have hx := cf.1
  have hb := cf.2.1
  have hown := cf.2.2.2.1
  have ht : ∀ w ∈ wA, w.before args s = true := fun w h => cf.2.2.2.2 w (List.mem_cons_of_mem _ h)
  intro n
  induction n with
  | zero => intro x1 young dropped mem dsk fresh released owed counted inMemory onDisk thn moved h; cases (show (none : Option (Int32 × (Nat → Int32) × (Nat → Int32) × (Nat → Int32) × (Nat → Int32) × (Nat → Int32) × (Nat → Int32) × (Nat → Int32) × (Nat → Int32) × (Nat → Int32) × (Nat → Int32) × (Nat → Int32) × Int32)) = some _ from h)
  | succ n ih =>
    intro x1 young dropped mem dsk fresh released owed counted inMemory onDisk thn moved h H locs ls hl hP hD hS
    unfold s_R_sync_2 at h
    refine lv_iload_n hx hb d_R_sync_2 rfl (lv_at hl 1 rfl) ?_
    refine lv_sipush (v := (nI 1000)) hx hb d_R_sync_3 (by decide) ?_
    refine lv_icmp_ge hx hb d_R_sync_6 rfl (fun hc => ?_) (fun hc => ?_)
    · rw [if_pos hc] at h
      exact w_R_sync_42 h_p0 h_p0_m h_p0_d h_p0_fresh h_p0_young h_p0_dropped h_p0_released h_p0_owed h_p0_counted h_p0_inMemory h_p0_onDisk h_p0_thn F young' dropped' mem' dsk' fresh' released' owed' counted' inMemory' onDisk' thn' moved' r ⟨cf, hr, hlk, hK, hN, hA⟩ x1 young dropped mem dsk fresh released owed counted inMemory onDisk thn moved h H locs ls (lv_sub hl [0, 1] rfl) hP hD hS
    · rw [if_neg hc] at h
      refine lv_aload_n hx hb d_R_sync_9 rfl (lv_at hl 0 rfl) ?_
      obtain ⟨r10, h10, h⟩ := bd_some h
      refine wk_Vi (As := []) (rest := []) (wc := (w_R cI cZ h_p0 h_p0_m h_p0_d h_p0_fresh h_p0_young h_p0_dropped h_p0_released h_p0_owed h_p0_counted h_p0_inMemory h_p0_onDisk h_p0_thn mem dsk fresh young dropped released owed counted inMemory onDisk thn moved)) (w1 := (w_R cI cZ h_p0 h_p0_m h_p0_d h_p0_fresh h_p0_young h_p0_dropped h_p0_released h_p0_owed h_p0_counted h_p0_inMemory h_p0_onDisk h_p0_thn mem dsk fresh young dropped released owed counted inMemory onDisk thn moved)) (wr := []) (wz := (w_R cI cZ h_p0 h_p0_m h_p0_d h_p0_fresh h_p0_young h_p0_dropped h_p0_released h_p0_owed h_p0_counted h_p0_inMemory h_p0_onDisk h_p0_thn mem dsk fresh young dropped released owed counted inMemory onDisk thn moved)) cf hK hN hA (c_R_allAlike l D cI cZ h_p0 h_p0_m h_p0_d h_p0_fresh h_p0_young h_p0_dropped h_p0_released h_p0_owed h_p0_counted h_p0_inMemory h_p0_onDisk h_p0_thn F mem dsk fresh young dropped released owed counted inMemory onDisk thn moved r10 h10) k_R_163 ⟨rfl, rfl, by decide, by decide⟩ 2 rfl rfl rfl hl hP hD hS [0, 1, 2, 3, 4, 5, 6, 7, 8, 9, 10, 11] [] [0, 1, 2, 3, 4, 5, 6, 7, 8, 9, 10, 11] rfl rfl rfl (by decide) rfl rfl rfl rfl rfl (Nat.le_of_ble_eq_true rfl) rfl d_R_sync_10 (fun H locs hP hD hS => ?_)
      refine lv_if_ne hx hb d_R_sync_13 rfl (fun hc => ?_) (fun hc => ?_)
      · rw [if_neg hc] at h
        exact w_R_sync_42 h_p0 h_p0_m h_p0_d h_p0_fresh h_p0_young h_p0_dropped h_p0_released h_p0_owed h_p0_counted h_p0_inMemory h_p0_onDisk h_p0_thn F young' dropped' mem' dsk' fresh' released' owed' counted' inMemory' onDisk' thn' moved' r ⟨cf, hr, hlk, hK, hN, hA⟩ x1 young dropped mem dsk fresh released owed counted inMemory onDisk thn moved h H locs ls (lv_sub hl [0, 1] rfl) hP hD hS
      · rw [if_pos hc] at h
        refine lv_iconst (v := (nI 0)) hx hb d_R_sync_16 (by decide) ?_
        refine lv_istore_n (lv' := [(2, .int (nI 0)), (0, .ref h_p0), (1, .int x1)]) hx hb d_R_sync_17 rfl hl (by decide) rfl (fun ls hl => ?_)
        exact w_R_sync_18 h_p0 h_p0_m h_p0_d h_p0_fresh h_p0_young h_p0_dropped h_p0_released h_p0_owed h_p0_counted h_p0_inMemory h_p0_onDisk h_p0_thn F young' dropped' mem' dsk' fresh' released' owed' counted' inMemory' onDisk' thn' moved' r _ ⟨cf, hr, hlk, hK, hN, hA⟩ ih F x1 (nI 0) young dropped mem dsk fresh released owed counted inMemory onDisk thn moved h H locs ls (lv_sub hl [1, 2, 0] rfl) hP hD hS
set_option maxHeartbeats 4000000 in
set_option maxRecDepth 100000 in
theorem c_R_sync (l : Launch) (D : va_G) (cI cZ : ClassId) (h_p0 h_p0_m h_p0_d h_p0_fresh h_p0_young h_p0_dropped h_p0_released h_p0_owed h_p0_counted h_p0_inMemory h_p0_onDisk h_p0_thn : Nat) (F : Nat) (mem : (Nat → Int32)) (dsk : (Nat → Int32)) (fresh : (Nat → Int32)) (young : (Nat → Int32)) (dropped : (Nat → Int32)) (released : (Nat → Int32)) (owed : (Nat → Int32)) (counted : (Nat → Int32)) (inMemory : (Nat → Int32)) (onDisk : (Nat → Int32)) (thn : (Nat → Int32)) (moved : Int32) (young' : (Nat → Int32)) (dropped' : (Nat → Int32)) (mem' : (Nat → Int32)) (dsk' : (Nat → Int32)) (fresh' : (Nat → Int32)) (released' : (Nat → Int32)) (owed' : (Nat → Int32)) (counted' : (Nat → Int32)) (inMemory' : (Nat → Int32)) (onDisk' : (Nat → Int32)) (thn' : (Nat → Int32)) (moved' : Int32) (r : Int32) (h : s_R_sync F young dropped mem dsk fresh released owed counted inMemory onDisk thn moved = some (r, young', dropped', mem', dsk', fresh', released', owed', counted', inMemory', onDisk', thn', moved')) : sc_i l y_R_sync (o_R_sync :: wA) rm_R_sync D cI cZ [.ref h_p0] (w_R cI cZ h_p0 h_p0_m h_p0_d h_p0_fresh h_p0_young h_p0_dropped h_p0_released h_p0_owed h_p0_counted h_p0_inMemory h_p0_onDisk h_p0_thn mem dsk fresh young dropped released owed counted inMemory onDisk thn moved) (w_R cI cZ h_p0 h_p0_m h_p0_d h_p0_fresh h_p0_young h_p0_dropped h_p0_released h_p0_owed h_p0_counted h_p0_inMemory h_p0_onDisk h_p0_thn (mem') (dsk') (fresh') (young') (dropped') (released') (owed') (counted') (inMemory') (onDisk') (thn') (moved')) r := by
  refine sc_i_of (cc := b_R_sync) (maxL := 3) (ret := (some .int)) (by decide) rfl (Nat.le_of_ble_eq_true rfl) ?_
  intro p e s m below meth c A cf hr hlk hK hN hA H locs ls hl hP hD hS
  have hx := cf.1
  have hb := cf.2.1
  have hown := cf.2.2.2.1
  have ht : ∀ w ∈ wA, w.before _ s = true := fun w h => cf.2.2.2.2 w (List.mem_cons_of_mem _ h)
  unfold s_R_sync at h
  have hl : lv_has ls 3 [(0, .ref h_p0)] := hl
  refine lv_iconst (v := (nI 0)) hx hb d_R_sync_0 (by decide) ?_
  refine lv_istore_n (lv' := [(1, .int (nI 0)), (0, .ref h_p0)]) hx hb d_R_sync_1 rfl hl (by decide) rfl (fun ls hl => ?_)
  exact w_R_sync_2 h_p0 h_p0_m h_p0_d h_p0_fresh h_p0_young h_p0_dropped h_p0_released h_p0_owed h_p0_counted h_p0_inMemory h_p0_onDisk h_p0_thn F young' dropped' mem' dsk' fresh' released' owed' counted' inMemory' onDisk' thn' moved' r ⟨cf, hr, hlk, hK, hN, hA⟩ F (nI 0) young dropped mem dsk fresh released owed counted inMemory onDisk thn moved h H locs ls (lv_sub hl [1, 0] rfl) hP hD hS
set_option maxHeartbeats 4000000 in
set_option maxRecDepth 100000 in
theorem w_R_take_12 {p : Program} {l : Launch} {e : Env} {s : State} {m : MethodId} {args : Array Value} {below : List Frame} {meth : Method} {c : Code} {D : va_G} {cI cZ : ClassId} {A : Nat → Prop} (h_p0 h_p0_m h_p0_d h_p0_fresh h_p0_young h_p0_dropped h_p0_released h_p0_owed h_p0_counted h_p0_inMemory h_p0_onDisk h_p0_thn : Nat) (F : Nat) (dsk : (Nat → Int32)) (young : (Nat → Int32)) (dropped : (Nat → Int32)) (released : (Nat → Int32)) (owed : (Nat → Int32)) (counted : (Nat → Int32)) (inMemory : (Nat → Int32)) (onDisk : (Nat → Int32)) (thn : (Nat → Int32)) (moved : Int32) (mem' : (Nat → Int32)) (fresh' : (Nat → Int32)) (cx : cx_ok p s m args meth c b_R_take 3 o_R_take "OrderedVolumeModel" none D cI cZ A) : ∀ (n : Nat) (x1 : Int32) (x2 : Int32) (mem : (Nat → Int32)) (fresh : (Nat → Int32)), s_R_take_12 F n x1 x2 mem fresh = some (mem', fresh') → wk_G p l e rm_R_take s m args below meth c (sc_Qv below args s D cI cZ A (w_R cI cZ h_p0 h_p0_m h_p0_d h_p0_fresh h_p0_young h_p0_dropped h_p0_released h_p0_owed h_p0_counted h_p0_inMemory h_p0_onDisk h_p0_thn (mem') dsk (fresh') young dropped released owed counted inMemory onDisk thn moved)) D A 3 12 [] [(0, .ref h_p0), (1, .int x1), (2, .int x2)] (w_R cI cZ h_p0 h_p0_m h_p0_d h_p0_fresh h_p0_young h_p0_dropped h_p0_released h_p0_owed h_p0_counted h_p0_inMemory h_p0_onDisk h_p0_thn mem dsk fresh young dropped released owed counted inMemory onDisk thn moved) := by
  obtain ⟨cf, hr, hlk, hK, hN, hA⟩ := cx
  have hx := cf.1
  have hb := cf.2.1
  have hown := cf.2.2.2.1
  have ht : ∀ w ∈ wA, w.before args s = true := fun w h => cf.2.2.2.2 w (List.mem_cons_of_mem _ h)
  intro n
  induction n with
  | zero => intro x1 x2 mem fresh h; cases (show (none : Option ((Nat → Int32) × (Nat → Int32))) = some _ from h)
  | succ n ih =>
    intro x1 x2 mem fresh h H locs ls hl hP hD hS
    unfold s_R_take_12 at h
    refine lv_iload_n hx hb d_R_take_12 rfl (lv_at hl 2 rfl) ?_
    refine lv_bipush (v := (nI 8)) hx hb d_R_take_13 (by decide) ?_
    refine lv_icmp_ge hx hb d_R_take_15 rfl (fun hc => ?_) (fun hc => ?_)
    · rw [if_pos hc] at h
      refine lv_aload_n hx hb d_R_take_36 rfl (lv_at hl 0 rfl) ?_
      refine va_get (D := D) (ci := 2) (v := .ref h_p0_fresh) (C := R_R) (T := F_R) (N := 12) hx hb ht in_R hown hK hP 0 rfl rfl 2 (by decide) (ht _ f_R_16) (fun _ h9 => h9) rfl d_R_take_37 ?_
      refine lv_iload_n hx hb d_R_take_40 rfl (lv_at hl 1 rfl) ?_
      refine lv_iconst (v := (nI 1)) hx hb d_R_take_41 (by decide) ?_
      obtain ⟨hin, h⟩ := ga_some h
      refine va_zast hx hb hK hP hD hS 3 1 rfl rfl hin d_R_take_42 (fun H locs hP hD hS => ?_)
      have hP : va_P D clA (w_R cI cZ h_p0 h_p0_m h_p0_d h_p0_fresh h_p0_young h_p0_dropped h_p0_released h_p0_owed h_p0_counted h_p0_inMemory h_p0_onDisk h_p0_thn mem dsk (upd fresh x1.toNatClampNeg (vp_nar .boolean (nI 1))) young dropped released owed counted inMemory onDisk thn moved) H := hP
      have hD : va_D A (w_R cI cZ h_p0 h_p0_m h_p0_d h_p0_fresh h_p0_young h_p0_dropped h_p0_released h_p0_owed h_p0_counted h_p0_inMemory h_p0_onDisk h_p0_thn mem dsk (upd fresh x1.toNatClampNeg (vp_nar .boolean (nI 1))) young dropped released owed counted inMemory onDisk thn moved) := hD
      cases h
      exact sc_vret cf hr hlk hK hP hD hS d_R_take_43
    · rw [if_neg hc] at h
      refine lv_aload_n hx hb d_R_take_18 rfl (lv_at hl 0 rfl) ?_
      refine va_get (D := D) (ci := 2) (v := .ref h_p0_m) (C := R_R) (T := F_R) (N := 12) hx hb ht in_R hown hK hP 0 rfl rfl 0 (by decide) (ht _ f_R_7) (fun _ h9 => h9) rfl d_R_take_19 ?_
      refine lv_bipush (v := (nI 30)) hx hb d_R_take_22 (by decide) ?_
      refine lv_iload_n hx hb d_R_take_24 rfl (lv_at hl 1 rfl) ?_
      refine lv_imul hx hb d_R_take_25 ?_
      refine lv_iload_n hx hb d_R_take_26 rfl (lv_at hl 2 rfl) ?_
      refine lv_iadd hx hb d_R_take_27 ?_
      refine lv_iconst (v := (nI 0)) hx hb d_R_take_28 (by decide) ?_
      obtain ⟨hin, h⟩ := ga_some h
      refine va_iast hx hb hK hP hD hS 1 0 rfl rfl hin d_R_take_29 (fun H locs hP hD hS => ?_)
      have hP : va_P D clA (w_R cI cZ h_p0 h_p0_m h_p0_d h_p0_fresh h_p0_young h_p0_dropped h_p0_released h_p0_owed h_p0_counted h_p0_inMemory h_p0_onDisk h_p0_thn (upd mem (((nI 30) * x1) + x2).toNatClampNeg (nI 0)) dsk fresh young dropped released owed counted inMemory onDisk thn moved) H := hP
      have hD : va_D A (w_R cI cZ h_p0 h_p0_m h_p0_d h_p0_fresh h_p0_young h_p0_dropped h_p0_released h_p0_owed h_p0_counted h_p0_inMemory h_p0_onDisk h_p0_thn (upd mem (((nI 30) * x1) + x2).toNatClampNeg (nI 0)) dsk fresh young dropped released owed counted inMemory onDisk thn moved) := hD
      refine lv_iinc (k := 2) (v := (x2 + (nI 1))) (lv' := [(2, .int (x2 + (nI 1))), (0, .ref h_p0), (1, .int x1)]) hx hb d_R_take_30 hl rfl rfl (by decide) rfl (fun ls hl => ?_)
      refine lv_goto hx hb d_R_take_33 rfl ?_
      exact ih x1 (x2 + (nI 1)) (upd mem (((nI 30) * x1) + x2).toNatClampNeg (nI 0)) fresh h H locs ls (lv_sub hl [1, 2, 0] rfl) hP hD hS
set_option maxHeartbeats 4000000 in
set_option maxRecDepth 100000 in
theorem c_R_take (l : Launch) (D : va_G) (cI cZ : ClassId) (h_p0 h_p0_m h_p0_d h_p0_fresh h_p0_young h_p0_dropped h_p0_released h_p0_owed h_p0_counted h_p0_inMemory h_p0_onDisk h_p0_thn : Nat) (F : Nat) (mem : (Nat → Int32)) (dsk : (Nat → Int32)) (fresh : (Nat → Int32)) (young : (Nat → Int32)) (dropped : (Nat → Int32)) (released : (Nat → Int32)) (owed : (Nat → Int32)) (counted : (Nat → Int32)) (inMemory : (Nat → Int32)) (onDisk : (Nat → Int32)) (thn : (Nat → Int32)) (moved : Int32) (mem' : (Nat → Int32)) (fresh' : (Nat → Int32)) (x1 : Int32) (h : s_R_take F x1 mem fresh = some (mem', fresh')) : sc_v l y_R_take (o_R_take :: wA) rm_R_take D cI cZ [.ref h_p0, .int x1] (w_R cI cZ h_p0 h_p0_m h_p0_d h_p0_fresh h_p0_young h_p0_dropped h_p0_released h_p0_owed h_p0_counted h_p0_inMemory h_p0_onDisk h_p0_thn mem dsk fresh young dropped released owed counted inMemory onDisk thn moved) (w_R cI cZ h_p0 h_p0_m h_p0_d h_p0_fresh h_p0_young h_p0_dropped h_p0_released h_p0_owed h_p0_counted h_p0_inMemory h_p0_onDisk h_p0_thn (mem') dsk (fresh') young dropped released owed counted inMemory onDisk thn moved) := by
  refine sc_v_of (cc := b_R_take) (maxL := 3) (ret := none) (by decide) rfl (Nat.le_of_ble_eq_true rfl) ?_
  intro p e s m below meth c A cf hr hlk hK hN hA H locs ls hl hP hD hS
  have hx := cf.1
  have hb := cf.2.1
  have hown := cf.2.2.2.1
  have ht : ∀ w ∈ wA, w.before _ s = true := fun w h => cf.2.2.2.2 w (List.mem_cons_of_mem _ h)
  unfold s_R_take at h
  have hl : lv_has ls 3 [(0, .ref h_p0), (1, .int x1)] := hl
  refine lv_aload_n hx hb d_R_take_0 rfl (lv_at hl 0 rfl) ?_
  refine va_get (D := D) (ci := 2) (v := .ref h_p0_m) (C := R_R) (T := F_R) (N := 12) hx hb ht in_R hown hK hP 0 rfl rfl 0 (by decide) (ht _ f_R_7) (fun _ h9 => h9) rfl d_R_take_1 ?_
  refine lv_iload_n hx hb d_R_take_4 rfl (lv_at hl 1 rfl) ?_
  obtain ⟨r5, h5, h⟩ := bd_some h
  refine wk_Si (As := [.int x1]) (rest := [.ref h_p0_m]) (wc := []) (w1 := []) (wr := [(h_p0, .inr (2, [.ref h_p0_m, .ref h_p0_d, .ref h_p0_fresh, .ref h_p0_young, .ref h_p0_dropped, .ref h_p0_released, .ref h_p0_owed, .ref h_p0_counted, .ref h_p0_inMemory, .ref h_p0_onDisk, .ref h_p0_thn, .int moved])), (h_p0_m, .inl (cI, 1080, .inl mem)), (h_p0_d, .inl (cI, 1080, .inl dsk)), (h_p0_fresh, .inl (cZ, 36, .inl fresh)), (h_p0_young, .inl (cZ, 288, .inl young)), (h_p0_dropped, .inl (cI, 36, .inl dropped)), (h_p0_released, .inl (cZ, 18, .inl released)), (h_p0_owed, .inl (cI, 18, .inl owed)), (h_p0_counted, .inl (cI, 18, .inl counted)), (h_p0_inMemory, .inl (cZ, 18, .inl inMemory)), (h_p0_onDisk, .inl (cZ, 18, .inl onDisk)), (h_p0_thn, .inl (cZ, 18, .inl thn))]) (wz := (w_R cI cZ h_p0 h_p0_m h_p0_d h_p0_fresh h_p0_young h_p0_dropped h_p0_released h_p0_owed h_p0_counted h_p0_inMemory h_p0_onDisk h_p0_thn mem dsk fresh young dropped released owed counted inMemory onDisk thn moved)) cf hK hN hA (c_R_markOfBlock l D cI cZ 0 x1 r5 h5) k_R_52 ⟨rfl, rfl, by decide, by decide⟩ hl hP hD hS [] [0, 1, 2, 3, 4, 5, 6, 7, 8, 9, 10, 11] [0, 1, 2, 3, 4, 5, 6, 7, 8, 9, 10, 11] rfl rfl rfl (by decide) rfl rfl rfl rfl rfl (Nat.le_of_ble_eq_true rfl) rfl d_R_take_5 (fun H locs hP hD hS => ?_)
  refine lv_iconst (v := (nI 1)) hx hb d_R_take_8 (by decide) ?_
  obtain ⟨hin, h⟩ := ga_some h
  refine va_iast hx hb hK hP hD hS 1 0 rfl rfl hin d_R_take_9 (fun H locs hP hD hS => ?_)
  have hP : va_P D clA (w_R cI cZ h_p0 h_p0_m h_p0_d h_p0_fresh h_p0_young h_p0_dropped h_p0_released h_p0_owed h_p0_counted h_p0_inMemory h_p0_onDisk h_p0_thn (upd mem r5.toNatClampNeg (nI 1)) dsk fresh young dropped released owed counted inMemory onDisk thn moved) H := hP
  have hD : va_D A (w_R cI cZ h_p0 h_p0_m h_p0_d h_p0_fresh h_p0_young h_p0_dropped h_p0_released h_p0_owed h_p0_counted h_p0_inMemory h_p0_onDisk h_p0_thn (upd mem r5.toNatClampNeg (nI 1)) dsk fresh young dropped released owed counted inMemory onDisk thn moved) := hD
  refine lv_iconst (v := (nI 0)) hx hb d_R_take_10 (by decide) ?_
  refine lv_istore_n (lv' := [(2, .int (nI 0)), (0, .ref h_p0), (1, .int x1)]) hx hb d_R_take_11 rfl hl (by decide) rfl (fun ls hl => ?_)
  exact w_R_take_12 h_p0 h_p0_m h_p0_d h_p0_fresh h_p0_young h_p0_dropped h_p0_released h_p0_owed h_p0_counted h_p0_inMemory h_p0_onDisk h_p0_thn F dsk young dropped released owed counted inMemory onDisk thn moved mem' fresh' ⟨cf, hr, hlk, hK, hN, hA⟩ F x1 (nI 0) (upd mem r5.toNatClampNeg (nI 1)) fresh h H locs ls (lv_sub hl [1, 2, 0] rfl) hP hD hS
set_option maxHeartbeats 4000000 in
set_option maxRecDepth 100000 in
theorem c_R_enter (l : Launch) (D : va_G) (cI cZ : ClassId) (h_p0 h_p0_m h_p0_d h_p0_fresh h_p0_young h_p0_dropped h_p0_released h_p0_owed h_p0_counted h_p0_inMemory h_p0_onDisk h_p0_thn : Nat) (F : Nat) (mem : (Nat → Int32)) (dsk : (Nat → Int32)) (fresh : (Nat → Int32)) (young : (Nat → Int32)) (dropped : (Nat → Int32)) (released : (Nat → Int32)) (owed : (Nat → Int32)) (counted : (Nat → Int32)) (inMemory : (Nat → Int32)) (onDisk : (Nat → Int32)) (thn : (Nat → Int32)) (moved : Int32) (young' : (Nat → Int32)) (mem' : (Nat → Int32)) (x1 : Int32) (x2 : Int32) (x3 : Int32) (h : s_R_enter F dsk fresh x1 x2 x3 young mem = some (young', mem')) : sc_v l y_R_enter (o_R_enter :: wA) rm_R_enter D cI cZ [.ref h_p0, .int x1, .int x2, .int x3] (w_R cI cZ h_p0 h_p0_m h_p0_d h_p0_fresh h_p0_young h_p0_dropped h_p0_released h_p0_owed h_p0_counted h_p0_inMemory h_p0_onDisk h_p0_thn mem dsk fresh young dropped released owed counted inMemory onDisk thn moved) (w_R cI cZ h_p0 h_p0_m h_p0_d h_p0_fresh h_p0_young h_p0_dropped h_p0_released h_p0_owed h_p0_counted h_p0_inMemory h_p0_onDisk h_p0_thn (mem') dsk fresh (young') dropped released owed counted inMemory onDisk thn moved) := by
  refine sc_v_of (cc := b_R_enter) (maxL := 6) (ret := none) (by decide) rfl (Nat.le_of_ble_eq_true rfl) ?_
  intro p e s m below meth c A cf hr hlk hK hN hA H locs ls hl hP hD hS
  have hx := cf.1
  have hb := cf.2.1
  have hown := cf.2.2.2.1
  have ht : ∀ w ∈ wA, w.before _ s = true := fun w h => cf.2.2.2.2 w (List.mem_cons_of_mem _ h)
  unfold s_R_enter at h
  have hl : lv_has ls 6 [(0, .ref h_p0), (1, .int x1), (2, .int x2), (3, .int x3)] := hl
  refine lv_aload_n hx hb d_R_enter_0 rfl (lv_at hl 0 rfl) ?_
  refine va_get (D := D) (ci := 2) (v := .ref h_p0_m) (C := R_R) (T := F_R) (N := 12) hx hb ht in_R hown hK hP 0 rfl rfl 0 (by decide) (ht _ f_R_7) (fun _ h9 => h9) rfl d_R_enter_1 ?_
  refine lv_iload_n hx hb d_R_enter_4 rfl (lv_at hl 1 rfl) ?_
  refine lv_iconst (v := (nI 2)) hx hb d_R_enter_5 (by decide) ?_
  obtain ⟨r6, h6, h⟩ := bd_some h
  refine wk_Si (As := [.int x1, .int (nI 2)]) (rest := [.ref h_p0_m]) (wc := []) (w1 := []) (wr := [(h_p0, .inr (2, [.ref h_p0_m, .ref h_p0_d, .ref h_p0_fresh, .ref h_p0_young, .ref h_p0_dropped, .ref h_p0_released, .ref h_p0_owed, .ref h_p0_counted, .ref h_p0_inMemory, .ref h_p0_onDisk, .ref h_p0_thn, .int moved])), (h_p0_m, .inl (cI, 1080, .inl mem)), (h_p0_d, .inl (cI, 1080, .inl dsk)), (h_p0_fresh, .inl (cZ, 36, .inl fresh)), (h_p0_young, .inl (cZ, 288, .inl young)), (h_p0_dropped, .inl (cI, 36, .inl dropped)), (h_p0_released, .inl (cZ, 18, .inl released)), (h_p0_owed, .inl (cI, 18, .inl owed)), (h_p0_counted, .inl (cI, 18, .inl counted)), (h_p0_inMemory, .inl (cZ, 18, .inl inMemory)), (h_p0_onDisk, .inl (cZ, 18, .inl onDisk)), (h_p0_thn, .inl (cZ, 18, .inl thn))]) (wz := (w_R cI cZ h_p0 h_p0_m h_p0_d h_p0_fresh h_p0_young h_p0_dropped h_p0_released h_p0_owed h_p0_counted h_p0_inMemory h_p0_onDisk h_p0_thn mem dsk fresh young dropped released owed counted inMemory onDisk thn moved)) cf hK hN hA (c_R_at l D cI cZ 0 x1 (nI 2) r6 h6) k_R_44 ⟨rfl, rfl, by decide, by decide⟩ hl hP hD hS [] [0, 1, 2, 3, 4, 5, 6, 7, 8, 9, 10, 11] [0, 1, 2, 3, 4, 5, 6, 7, 8, 9, 10, 11] rfl rfl rfl (by decide) rfl rfl rfl rfl rfl (Nat.le_of_ble_eq_true rfl) rfl d_R_enter_6 (fun H locs hP hD hS => ?_)
  obtain ⟨hin, h⟩ := gr_some h
  refine va_iald hx hb hK hP 1 0 rfl rfl hin d_R_enter_9 ?_
  generalize mem r6.toNatClampNeg = v9 at h ⊢
  refine lv_istore (lv' := [(4, .int v9), (0, .ref h_p0), (1, .int x1), (2, .int x2), (3, .int x3)]) hx hb d_R_enter_10 hl (by decide) rfl (fun ls hl => ?_)
  refine lv_aload_n hx hb d_R_enter_12 rfl (lv_at hl 1 rfl) ?_
  refine lv_iload_n hx hb d_R_enter_13 rfl (lv_at hl 2 rfl) ?_
  obtain ⟨r14, h14, h⟩ := bd_some h
  refine wk_Vi (As := [.int x1]) (rest := []) (wc := (w_R cI cZ h_p0 h_p0_m h_p0_d h_p0_fresh h_p0_young h_p0_dropped h_p0_released h_p0_owed h_p0_counted h_p0_inMemory h_p0_onDisk h_p0_thn mem dsk fresh young dropped released owed counted inMemory onDisk thn moved)) (w1 := (w_R cI cZ h_p0 h_p0_m h_p0_d h_p0_fresh h_p0_young h_p0_dropped h_p0_released h_p0_owed h_p0_counted h_p0_inMemory h_p0_onDisk h_p0_thn mem dsk fresh young dropped released owed counted inMemory onDisk thn moved)) (wr := []) (wz := (w_R cI cZ h_p0 h_p0_m h_p0_d h_p0_fresh h_p0_young h_p0_dropped h_p0_released h_p0_owed h_p0_counted h_p0_inMemory h_p0_onDisk h_p0_thn mem dsk fresh young dropped released owed counted inMemory onDisk thn moved)) cf hK hN hA (c_R_place l D cI cZ h_p0 h_p0_m h_p0_d h_p0_fresh h_p0_young h_p0_dropped h_p0_released h_p0_owed h_p0_counted h_p0_inMemory h_p0_onDisk h_p0_thn F mem dsk fresh young dropped released owed counted inMemory onDisk thn moved x1 r14 h14) k_R_72 ⟨rfl, rfl, by decide, by decide⟩ 2 rfl rfl rfl hl hP hD hS [0, 1, 2, 3, 4, 5, 6, 7, 8, 9, 10, 11] [] [0, 1, 2, 3, 4, 5, 6, 7, 8, 9, 10, 11] rfl rfl rfl (by decide) rfl rfl rfl rfl rfl (Nat.le_of_ble_eq_true rfl) rfl d_R_enter_14 (fun H locs hP hD hS => ?_)
  refine lv_istore (lv' := [(5, .int r14), (4, .int v9), (0, .ref h_p0), (1, .int x1), (2, .int x2), (3, .int x3)]) hx hb d_R_enter_17 hl (by decide) rfl (fun ls hl => ?_)
  refine lv_aload_n hx hb d_R_enter_19 rfl (lv_at hl 2 rfl) ?_
  refine va_get (D := D) (ci := 2) (v := .ref h_p0_m) (C := R_R) (T := F_R) (N := 12) hx hb ht in_R hown hK hP 0 rfl rfl 0 (by decide) (ht _ f_R_7) (fun _ h9 => h9) rfl d_R_enter_20 ?_
  refine lv_bipush (v := (nI 30)) hx hb d_R_enter_23 (by decide) ?_
  refine lv_iload hx hb d_R_enter_25 (lv_at hl 1 rfl) ?_
  refine lv_imul hx hb d_R_enter_27 ?_
  refine lv_iload hx hb d_R_enter_28 (lv_at hl 0 rfl) ?_
  refine lv_iadd hx hb d_R_enter_30 ?_
  refine lv_bipush (v := (nI 32)) hx hb d_R_enter_31 (by decide) ?_
  refine lv_iload_n hx hb d_R_enter_33 rfl (lv_at hl 4 rfl) ?_
  refine lv_imul hx hb d_R_enter_34 ?_
  refine lv_iload_n hx hb d_R_enter_35 rfl (lv_at hl 5 rfl) ?_
  refine lv_iadd hx hb d_R_enter_36 ?_
  obtain ⟨hin, h⟩ := ga_some h
  refine va_iast hx hb hK hP hD hS 1 0 rfl rfl hin d_R_enter_37 (fun H locs hP hD hS => ?_)
  have hP : va_P D clA (w_R cI cZ h_p0 h_p0_m h_p0_d h_p0_fresh h_p0_young h_p0_dropped h_p0_released h_p0_owed h_p0_counted h_p0_inMemory h_p0_onDisk h_p0_thn (upd mem (((nI 30) * v9) + r14).toNatClampNeg (((nI 32) * x2) + x3)) dsk fresh young dropped released owed counted inMemory onDisk thn moved) H := hP
  have hD : va_D A (w_R cI cZ h_p0 h_p0_m h_p0_d h_p0_fresh h_p0_young h_p0_dropped h_p0_released h_p0_owed h_p0_counted h_p0_inMemory h_p0_onDisk h_p0_thn (upd mem (((nI 30) * v9) + r14).toNatClampNeg (((nI 32) * x2) + x3)) dsk fresh young dropped released owed counted inMemory onDisk thn moved) := hD
  refine lv_aload_n hx hb d_R_enter_38 rfl (lv_at hl 2 rfl) ?_
  refine va_get (D := D) (ci := 2) (v := .ref h_p0_young) (C := R_R) (T := F_R) (N := 12) hx hb ht in_R hown hK hP 0 rfl rfl 3 (by decide) (ht _ f_R_20) (fun _ h9 => h9) rfl d_R_enter_39 ?_
  refine lv_bipush (v := (nI 8)) hx hb d_R_enter_42 (by decide) ?_
  refine lv_iload hx hb d_R_enter_44 (lv_at hl 1 rfl) ?_
  refine lv_imul hx hb d_R_enter_46 ?_
  refine lv_iload hx hb d_R_enter_47 (lv_at hl 0 rfl) ?_
  refine lv_iadd hx hb d_R_enter_49 ?_
  refine lv_iconst (v := (nI 1)) hx hb d_R_enter_50 (by decide) ?_
  obtain ⟨hin, h⟩ := ga_some h
  refine va_zast hx hb hK hP hD hS 4 1 rfl rfl hin d_R_enter_51 (fun H locs hP hD hS => ?_)
  have hP : va_P D clA (w_R cI cZ h_p0 h_p0_m h_p0_d h_p0_fresh h_p0_young h_p0_dropped h_p0_released h_p0_owed h_p0_counted h_p0_inMemory h_p0_onDisk h_p0_thn (upd mem (((nI 30) * v9) + r14).toNatClampNeg (((nI 32) * x2) + x3)) dsk fresh (upd young (((nI 8) * v9) + r14).toNatClampNeg (vp_nar .boolean (nI 1))) dropped released owed counted inMemory onDisk thn moved) H := hP
  have hD : va_D A (w_R cI cZ h_p0 h_p0_m h_p0_d h_p0_fresh h_p0_young h_p0_dropped h_p0_released h_p0_owed h_p0_counted h_p0_inMemory h_p0_onDisk h_p0_thn (upd mem (((nI 30) * v9) + r14).toNatClampNeg (((nI 32) * x2) + x3)) dsk fresh (upd young (((nI 8) * v9) + r14).toNatClampNeg (vp_nar .boolean (nI 1))) dropped released owed counted inMemory onDisk thn moved) := hD
  refine lv_aload_n hx hb d_R_enter_52 rfl (lv_at hl 2 rfl) ?_
  refine va_get (D := D) (ci := 2) (v := .ref h_p0_m) (C := R_R) (T := F_R) (N := 12) hx hb ht in_R hown hK hP 0 rfl rfl 0 (by decide) (ht _ f_R_7) (fun _ h9 => h9) rfl d_R_enter_53 ?_
  refine lv_iload_n hx hb d_R_enter_56 rfl (lv_at hl 5 rfl) ?_
  refine lv_iconst (v := (nI 1)) hx hb d_R_enter_57 (by decide) ?_
  obtain ⟨r58, h58, h⟩ := bd_some h
  refine wk_Si (As := [.int x3, .int (nI 1)]) (rest := [.ref h_p0_m]) (wc := []) (w1 := []) (wr := [(h_p0, .inr (2, [.ref h_p0_m, .ref h_p0_d, .ref h_p0_fresh, .ref h_p0_young, .ref h_p0_dropped, .ref h_p0_released, .ref h_p0_owed, .ref h_p0_counted, .ref h_p0_inMemory, .ref h_p0_onDisk, .ref h_p0_thn, .int moved])), (h_p0_m, .inl (cI, 1080, .inl (upd mem (((nI 30) * v9) + r14).toNatClampNeg (((nI 32) * x2) + x3)))), (h_p0_d, .inl (cI, 1080, .inl dsk)), (h_p0_fresh, .inl (cZ, 36, .inl fresh)), (h_p0_young, .inl (cZ, 288, .inl (upd young (((nI 8) * v9) + r14).toNatClampNeg (vp_nar .boolean (nI 1))))), (h_p0_dropped, .inl (cI, 36, .inl dropped)), (h_p0_released, .inl (cZ, 18, .inl released)), (h_p0_owed, .inl (cI, 18, .inl owed)), (h_p0_counted, .inl (cI, 18, .inl counted)), (h_p0_inMemory, .inl (cZ, 18, .inl inMemory)), (h_p0_onDisk, .inl (cZ, 18, .inl onDisk)), (h_p0_thn, .inl (cZ, 18, .inl thn))]) (wz := (w_R cI cZ h_p0 h_p0_m h_p0_d h_p0_fresh h_p0_young h_p0_dropped h_p0_released h_p0_owed h_p0_counted h_p0_inMemory h_p0_onDisk h_p0_thn (upd mem (((nI 30) * v9) + r14).toNatClampNeg (((nI 32) * x2) + x3)) dsk fresh (upd young (((nI 8) * v9) + r14).toNatClampNeg (vp_nar .boolean (nI 1))) dropped released owed counted inMemory onDisk thn moved)) cf hK hN hA (c_R_at l D cI cZ 0 x3 (nI 1) r58 h58) k_R_44 ⟨rfl, rfl, by decide, by decide⟩ hl hP hD hS [] [0, 1, 2, 3, 4, 5, 6, 7, 8, 9, 10, 11] [0, 1, 2, 3, 4, 5, 6, 7, 8, 9, 10, 11] rfl rfl rfl (by decide) rfl rfl rfl rfl rfl (Nat.le_of_ble_eq_true rfl) rfl d_R_enter_58 (fun H locs hP hD hS => ?_)
  refine lv_dup2_11 hx hb d_R_enter_61 rfl rfl ?_
  obtain ⟨hin, h⟩ := gr_some h
  refine va_iald hx hb hK hP 1 0 rfl rfl hin d_R_enter_62 ?_
  generalize (upd mem (((nI 30) * v9) + r14).toNatClampNeg (((nI 32) * x2) + x3)) r58.toNatClampNeg = v62 at h ⊢
  refine lv_iconst (v := (nI 1)) hx hb d_R_enter_63 (by decide) ?_
  refine lv_iadd hx hb d_R_enter_64 ?_
  obtain ⟨hin, h⟩ := ga_some h
  refine va_iast hx hb hK hP hD hS 1 0 rfl rfl hin d_R_enter_65 (fun H locs hP hD hS => ?_)
  have hP : va_P D clA (w_R cI cZ h_p0 h_p0_m h_p0_d h_p0_fresh h_p0_young h_p0_dropped h_p0_released h_p0_owed h_p0_counted h_p0_inMemory h_p0_onDisk h_p0_thn (upd (upd mem (((nI 30) * v9) + r14).toNatClampNeg (((nI 32) * x2) + x3)) r58.toNatClampNeg (v62 + (nI 1))) dsk fresh (upd young (((nI 8) * v9) + r14).toNatClampNeg (vp_nar .boolean (nI 1))) dropped released owed counted inMemory onDisk thn moved) H := hP
  have hD : va_D A (w_R cI cZ h_p0 h_p0_m h_p0_d h_p0_fresh h_p0_young h_p0_dropped h_p0_released h_p0_owed h_p0_counted h_p0_inMemory h_p0_onDisk h_p0_thn (upd (upd mem (((nI 30) * v9) + r14).toNatClampNeg (((nI 32) * x2) + x3)) r58.toNatClampNeg (v62 + (nI 1))) dsk fresh (upd young (((nI 8) * v9) + r14).toNatClampNeg (vp_nar .boolean (nI 1))) dropped released owed counted inMemory onDisk thn moved) := hD
  cases h
  exact sc_vret cf hr hlk hK hP hD hS d_R_enter_66
set_option maxHeartbeats 4000000 in
set_option maxRecDepth 100000 in
theorem w_R_create_170 {p : Program} {l : Launch} {e : Env} {s : State} {m : MethodId} {args : Array Value} {below : List Frame} {meth : Method} {c : Code} {D : va_G} {cI cZ : ClassId} {A : Nat → Prop} (h_p0 h_p0_m h_p0_d h_p0_fresh h_p0_young h_p0_dropped h_p0_released h_p0_owed h_p0_counted h_p0_inMemory h_p0_onDisk h_p0_thn : Nat) (F : Nat) (young' : (Nat → Int32)) (dropped' : (Nat → Int32)) (mem' : (Nat → Int32)) (dsk' : (Nat → Int32)) (fresh' : (Nat → Int32)) (released' : (Nat → Int32)) (owed' : (Nat → Int32)) (counted' : (Nat → Int32)) (inMemory' : (Nat → Int32)) (onDisk' : (Nat → Int32)) (thn' : (Nat → Int32)) (moved' : Int32) (r : Int32) (cx : cx_ok p s m args meth c b_R_create 6 o_R_create "OrderedVolumeModel" (some .int) D cI cZ A) : ∀ (x1 : Int32) (x2 : Int32) (x4 : Int32) (young : (Nat → Int32)) (dropped : (Nat → Int32)) (mem : (Nat → Int32)) (dsk : (Nat → Int32)) (fresh : (Nat → Int32)) (released : (Nat → Int32)) (owed : (Nat → Int32)) (counted : (Nat → Int32)) (inMemory : (Nat → Int32)) (onDisk : (Nat → Int32)) (thn : (Nat → Int32)) (moved : Int32), s_R_create_170 F x1 x2 x4 young dropped mem dsk fresh released owed counted inMemory onDisk thn moved = some (r, young', dropped', mem', dsk', fresh', released', owed', counted', inMemory', onDisk', thn', moved') → wk_G p l e rm_R_create s m args below meth c (sc_Qi below args s D cI cZ A (w_R cI cZ h_p0 h_p0_m h_p0_d h_p0_fresh h_p0_young h_p0_dropped h_p0_released h_p0_owed h_p0_counted h_p0_inMemory h_p0_onDisk h_p0_thn (mem') (dsk') (fresh') (young') (dropped') (released') (owed') (counted') (inMemory') (onDisk') (thn') (moved')) r) D A 6 170 [] [(0, .ref h_p0), (1, .int x1), (2, .int x2), (4, .int x4)] (w_R cI cZ h_p0 h_p0_m h_p0_d h_p0_fresh h_p0_young h_p0_dropped h_p0_released h_p0_owed h_p0_counted h_p0_inMemory h_p0_onDisk h_p0_thn mem dsk fresh young dropped released owed counted inMemory onDisk thn moved) := by
  obtain ⟨cf, hr, hlk, hK, hN, hA⟩ := cx
  have hx := cf.1
  have hb := cf.2.1
  have hown := cf.2.2.2.1
  have ht : ∀ w ∈ wA, w.before args s = true := fun w h => cf.2.2.2.2 w (List.mem_cons_of_mem _ h)
  intro x1 x2 x4 young dropped mem dsk fresh released owed counted inMemory onDisk thn moved h H locs ls hl hP hD hS
  unfold s_R_create_170 at h
  refine lv_aload_n hx hb d_R_create_170 rfl (lv_at hl 0 rfl) ?_
  refine lv_iload_n hx hb d_R_create_171 rfl (lv_at hl 1 rfl) ?_
  refine lv_iload_n hx hb d_R_create_172 rfl (lv_at hl 2 rfl) ?_
  refine lv_iload hx hb d_R_create_173 (lv_at hl 3 rfl) ?_
  obtain ⟨⟨young_175, mem_175⟩, h175, h⟩ := bd_some h
  dsimp only at h
  refine wk_Vv (As := [.int x1, .int x2, .int x4]) (rest := []) (wc := (w_R cI cZ h_p0 h_p0_m h_p0_d h_p0_fresh h_p0_young h_p0_dropped h_p0_released h_p0_owed h_p0_counted h_p0_inMemory h_p0_onDisk h_p0_thn mem dsk fresh young dropped released owed counted inMemory onDisk thn moved)) (w1 := (w_R cI cZ h_p0 h_p0_m h_p0_d h_p0_fresh h_p0_young h_p0_dropped h_p0_released h_p0_owed h_p0_counted h_p0_inMemory h_p0_onDisk h_p0_thn mem_175 dsk fresh young_175 dropped released owed counted inMemory onDisk thn moved)) (wr := []) (wz := (w_R cI cZ h_p0 h_p0_m h_p0_d h_p0_fresh h_p0_young h_p0_dropped h_p0_released h_p0_owed h_p0_counted h_p0_inMemory h_p0_onDisk h_p0_thn mem_175 dsk fresh young_175 dropped released owed counted inMemory onDisk thn moved)) cf hK hN hA (c_R_enter l D cI cZ h_p0 h_p0_m h_p0_d h_p0_fresh h_p0_young h_p0_dropped h_p0_released h_p0_owed h_p0_counted h_p0_inMemory h_p0_onDisk h_p0_thn F mem dsk fresh young dropped released owed counted inMemory onDisk thn moved young_175 mem_175 x1 x2 x4 h175) k_R_130 ⟨rfl, rfl, by decide, by decide⟩ 2 rfl rfl rfl hl hP hD hS [0, 1, 2, 3, 4, 5, 6, 7, 8, 9, 10, 11] [] [0, 1, 2, 3, 4, 5, 6, 7, 8, 9, 10, 11] rfl rfl rfl (by decide) rfl rfl rfl rfl rfl (Nat.le_of_ble_eq_true rfl) rfl d_R_create_175 (fun H locs hP hD hS => ?_)
  refine lv_iload hx hb d_R_create_178 (lv_at hl 3 rfl) ?_
  cases h
  exact sc_iret cf hr hlk hK hP hD hS d_R_create_180
set_option maxHeartbeats 4000000 in
set_option maxRecDepth 100000 in
theorem w_R_create_111 {p : Program} {l : Launch} {e : Env} {s : State} {m : MethodId} {args : Array Value} {below : List Frame} {meth : Method} {c : Code} {D : va_G} {cI cZ : ClassId} {A : Nat → Prop} (h_p0 h_p0_m h_p0_d h_p0_fresh h_p0_young h_p0_dropped h_p0_released h_p0_owed h_p0_counted h_p0_inMemory h_p0_onDisk h_p0_thn : Nat) (F : Nat) (young' : (Nat → Int32)) (dropped' : (Nat → Int32)) (mem' : (Nat → Int32)) (dsk' : (Nat → Int32)) (fresh' : (Nat → Int32)) (released' : (Nat → Int32)) (owed' : (Nat → Int32)) (counted' : (Nat → Int32)) (inMemory' : (Nat → Int32)) (onDisk' : (Nat → Int32)) (thn' : (Nat → Int32)) (moved' : Int32) (r : Int32) (cx : cx_ok p s m args meth c b_R_create 6 o_R_create "OrderedVolumeModel" (some .int) D cI cZ A) : ∀ (n : Nat) (x1 : Int32) (x2 : Int32) (x3 : Int32) (x4 : Int32) (x5 : Int32) (young : (Nat → Int32)) (dropped : (Nat → Int32)) (mem : (Nat → Int32)) (dsk : (Nat → Int32)) (fresh : (Nat → Int32)) (released : (Nat → Int32)) (owed : (Nat → Int32)) (counted : (Nat → Int32)) (inMemory : (Nat → Int32)) (onDisk : (Nat → Int32)) (thn : (Nat → Int32)) (moved : Int32), s_R_create_111 F n x1 x2 x3 x4 x5 young dropped mem dsk fresh released owed counted inMemory onDisk thn moved = some (r, young', dropped', mem', dsk', fresh', released', owed', counted', inMemory', onDisk', thn', moved') → wk_G p l e rm_R_create s m args below meth c (sc_Qi below args s D cI cZ A (w_R cI cZ h_p0 h_p0_m h_p0_d h_p0_fresh h_p0_young h_p0_dropped h_p0_released h_p0_owed h_p0_counted h_p0_inMemory h_p0_onDisk h_p0_thn (mem') (dsk') (fresh') (young') (dropped') (released') (owed') (counted') (inMemory') (onDisk') (thn') (moved')) r) D A 6 111 [] [(0, .ref h_p0), (1, .int x1), (2, .int x2), (3, .int x3), (4, .int x4), (5, .int x5)] (w_R cI cZ h_p0 h_p0_m h_p0_d h_p0_fresh h_p0_young h_p0_dropped h_p0_released h_p0_owed h_p0_counted h_p0_inMemory h_p0_onDisk h_p0_thn mem dsk fresh young dropped released owed counted inMemory onDisk thn moved) := by
  obtain ⟨cf, hr, hlk, hK, hN, hA⟩ := cx
  have hx := cf.1
  have hb := cf.2.1
  have hown := cf.2.2.2.1
  have ht : ∀ w ∈ wA, w.before args s = true := fun w h => cf.2.2.2.2 w (List.mem_cons_of_mem _ h)
  intro n
  induction n with
  | zero => intro x1 x2 x3 x4 x5 young dropped mem dsk fresh released owed counted inMemory onDisk thn moved h; cases (show (none : Option (Int32 × (Nat → Int32) × (Nat → Int32) × (Nat → Int32) × (Nat → Int32) × (Nat → Int32) × (Nat → Int32) × (Nat → Int32) × (Nat → Int32) × (Nat → Int32) × (Nat → Int32) × (Nat → Int32) × Int32)) = some _ from h)
  | succ n ih =>
    intro x1 x2 x3 x4 x5 young dropped mem dsk fresh released owed counted inMemory onDisk thn moved h H locs ls hl hP hD hS
    unfold s_R_create_111 at h
    refine lv_iload hx hb d_R_create_111 (lv_at hl 5 rfl) ?_
    refine lv_iconst (v := (nI 5)) hx hb d_R_create_113 (by decide) ?_
    refine lv_icmp_ge hx hb d_R_create_114 rfl (fun hc => ?_) (fun hc => ?_)
    · rw [if_pos hc] at h
      refine lv_iload_n hx hb d_R_create_136 rfl (lv_at hl 3 rfl) ?_
      refine lv_if_eq hx hb d_R_create_137 rfl (fun hc => ?_) (fun hc => ?_)
      · rw [if_pos hc] at h
        exact w_R_create_170 h_p0 h_p0_m h_p0_d h_p0_fresh h_p0_young h_p0_dropped h_p0_released h_p0_owed h_p0_counted h_p0_inMemory h_p0_onDisk h_p0_thn F young' dropped' mem' dsk' fresh' released' owed' counted' inMemory' onDisk' thn' moved' r ⟨cf, hr, hlk, hK, hN, hA⟩ x1 x2 x4 young dropped mem dsk fresh released owed counted inMemory onDisk thn moved h H locs ls (lv_sub hl [0, 1, 2, 4] rfl) hP hD hS
      · rw [if_neg hc] at h
        refine lv_aload_n hx hb d_R_create_140 rfl (lv_at hl 0 rfl) ?_
        refine lv_iload hx hb d_R_create_141 (lv_at hl 4 rfl) ?_
        refine lv_bipush (v := (nI 6)) hx hb d_R_create_143 (by decide) ?_
        refine lv_idiv hx hb d_R_create_145 (by decide) ?_
        obtain ⟨r146, h146, h⟩ := bd_some h
        refine wk_Vi (As := [.int (x4 / (nI 6))]) (rest := []) (wc := (w_R cI cZ h_p0 h_p0_m h_p0_d h_p0_fresh h_p0_young h_p0_dropped h_p0_released h_p0_owed h_p0_counted h_p0_inMemory h_p0_onDisk h_p0_thn mem dsk fresh young dropped released owed counted inMemory onDisk thn moved)) (w1 := (w_R cI cZ h_p0 h_p0_m h_p0_d h_p0_fresh h_p0_young h_p0_dropped h_p0_released h_p0_owed h_p0_counted h_p0_inMemory h_p0_onDisk h_p0_thn mem dsk fresh young dropped released owed counted inMemory onDisk thn moved)) (wr := []) (wz := (w_R cI cZ h_p0 h_p0_m h_p0_d h_p0_fresh h_p0_young h_p0_dropped h_p0_released h_p0_owed h_p0_counted h_p0_inMemory h_p0_onDisk h_p0_thn mem dsk fresh young dropped released owed counted inMemory onDisk thn moved)) cf hK hN hA (c_R_blockFrom l D cI cZ h_p0 h_p0_m h_p0_d h_p0_fresh h_p0_young h_p0_dropped h_p0_released h_p0_owed h_p0_counted h_p0_inMemory h_p0_onDisk h_p0_thn F mem dsk fresh young dropped released owed counted inMemory onDisk thn moved (x4 / (nI 6)) r146 h146) k_R_99 ⟨rfl, rfl, by decide, by decide⟩ 2 rfl rfl rfl hl hP hD hS [0, 1, 2, 3, 4, 5, 6, 7, 8, 9, 10, 11] [] [0, 1, 2, 3, 4, 5, 6, 7, 8, 9, 10, 11] rfl rfl rfl (by decide) rfl rfl rfl rfl rfl (Nat.le_of_ble_eq_true rfl) rfl d_R_create_146 (fun H locs hP hD hS => ?_)
        refine lv_istore (lv' := [(5, .int r146), (0, .ref h_p0), (1, .int x1), (2, .int x2), (3, .int x3), (4, .int x4)]) hx hb d_R_create_149 hl (by decide) rfl (fun ls hl => ?_)
        refine lv_aload_n hx hb d_R_create_151 rfl (lv_at hl 1 rfl) ?_
        refine lv_iload hx hb d_R_create_152 (lv_at hl 0 rfl) ?_
        obtain ⟨⟨mem_154, fresh_154⟩, h154, h⟩ := bd_some h
        dsimp only at h
        refine wk_Vv (As := [.int r146]) (rest := []) (wc := (w_R cI cZ h_p0 h_p0_m h_p0_d h_p0_fresh h_p0_young h_p0_dropped h_p0_released h_p0_owed h_p0_counted h_p0_inMemory h_p0_onDisk h_p0_thn mem dsk fresh young dropped released owed counted inMemory onDisk thn moved)) (w1 := (w_R cI cZ h_p0 h_p0_m h_p0_d h_p0_fresh h_p0_young h_p0_dropped h_p0_released h_p0_owed h_p0_counted h_p0_inMemory h_p0_onDisk h_p0_thn mem_154 dsk fresh_154 young dropped released owed counted inMemory onDisk thn moved)) (wr := []) (wz := (w_R cI cZ h_p0 h_p0_m h_p0_d h_p0_fresh h_p0_young h_p0_dropped h_p0_released h_p0_owed h_p0_counted h_p0_inMemory h_p0_onDisk h_p0_thn mem_154 dsk fresh_154 young dropped released owed counted inMemory onDisk thn moved)) cf hK hN hA (c_R_take l D cI cZ h_p0 h_p0_m h_p0_d h_p0_fresh h_p0_young h_p0_dropped h_p0_released h_p0_owed h_p0_counted h_p0_inMemory h_p0_onDisk h_p0_thn F mem dsk fresh young dropped released owed counted inMemory onDisk thn moved mem_154 fresh_154 r146 h154) k_R_127 ⟨rfl, rfl, by decide, by decide⟩ 2 rfl rfl rfl hl hP hD hS [0, 1, 2, 3, 4, 5, 6, 7, 8, 9, 10, 11] [] [0, 1, 2, 3, 4, 5, 6, 7, 8, 9, 10, 11] rfl rfl rfl (by decide) rfl rfl rfl rfl rfl (Nat.le_of_ble_eq_true rfl) rfl d_R_create_154 (fun H locs hP hD hS => ?_)
        refine lv_aload_n hx hb d_R_create_157 rfl (lv_at hl 1 rfl) ?_
        refine va_get (D := D) (ci := 2) (v := .ref h_p0_m) (C := R_R) (T := F_R) (N := 12) hx hb ht in_R hown hK hP 0 rfl rfl 0 (by decide) (ht _ f_R_7) (fun _ h9 => h9) rfl d_R_create_158 ?_
        refine lv_iload hx hb d_R_create_161 (lv_at hl 5 rfl) ?_
        refine lv_iconst (v := (nI 2)) hx hb d_R_create_163 (by decide) ?_
        obtain ⟨r164, h164, h⟩ := bd_some h
        refine wk_Si (As := [.int x4, .int (nI 2)]) (rest := [.ref h_p0_m]) (wc := []) (w1 := []) (wr := [(h_p0, .inr (2, [.ref h_p0_m, .ref h_p0_d, .ref h_p0_fresh, .ref h_p0_young, .ref h_p0_dropped, .ref h_p0_released, .ref h_p0_owed, .ref h_p0_counted, .ref h_p0_inMemory, .ref h_p0_onDisk, .ref h_p0_thn, .int moved])), (h_p0_m, .inl (cI, 1080, .inl mem_154)), (h_p0_d, .inl (cI, 1080, .inl dsk)), (h_p0_fresh, .inl (cZ, 36, .inl fresh_154)), (h_p0_young, .inl (cZ, 288, .inl young)), (h_p0_dropped, .inl (cI, 36, .inl dropped)), (h_p0_released, .inl (cZ, 18, .inl released)), (h_p0_owed, .inl (cI, 18, .inl owed)), (h_p0_counted, .inl (cI, 18, .inl counted)), (h_p0_inMemory, .inl (cZ, 18, .inl inMemory)), (h_p0_onDisk, .inl (cZ, 18, .inl onDisk)), (h_p0_thn, .inl (cZ, 18, .inl thn))]) (wz := (w_R cI cZ h_p0 h_p0_m h_p0_d h_p0_fresh h_p0_young h_p0_dropped h_p0_released h_p0_owed h_p0_counted h_p0_inMemory h_p0_onDisk h_p0_thn mem_154 dsk fresh_154 young dropped released owed counted inMemory onDisk thn moved)) cf hK hN hA (c_R_at l D cI cZ 0 x4 (nI 2) r164 h164) k_R_44 ⟨rfl, rfl, by decide, by decide⟩ hl hP hD hS [] [0, 1, 2, 3, 4, 5, 6, 7, 8, 9, 10, 11] [0, 1, 2, 3, 4, 5, 6, 7, 8, 9, 10, 11] rfl rfl rfl (by decide) rfl rfl rfl rfl rfl (Nat.le_of_ble_eq_true rfl) rfl d_R_create_164 (fun H locs hP hD hS => ?_)
        refine lv_iload hx hb d_R_create_167 (lv_at hl 0 rfl) ?_
        obtain ⟨hin, h⟩ := ga_some h
        refine va_iast hx hb hK hP hD hS 1 0 rfl rfl hin d_R_create_169 (fun H locs hP hD hS => ?_)
        have hP : va_P D clA (w_R cI cZ h_p0 h_p0_m h_p0_d h_p0_fresh h_p0_young h_p0_dropped h_p0_released h_p0_owed h_p0_counted h_p0_inMemory h_p0_onDisk h_p0_thn (upd mem_154 r164.toNatClampNeg r146) dsk fresh_154 young dropped released owed counted inMemory onDisk thn moved) H := hP
        have hD : va_D A (w_R cI cZ h_p0 h_p0_m h_p0_d h_p0_fresh h_p0_young h_p0_dropped h_p0_released h_p0_owed h_p0_counted h_p0_inMemory h_p0_onDisk h_p0_thn (upd mem_154 r164.toNatClampNeg r146) dsk fresh_154 young dropped released owed counted inMemory onDisk thn moved) := hD
        exact w_R_create_170 h_p0 h_p0_m h_p0_d h_p0_fresh h_p0_young h_p0_dropped h_p0_released h_p0_owed h_p0_counted h_p0_inMemory h_p0_onDisk h_p0_thn F young' dropped' mem' dsk' fresh' released' owed' counted' inMemory' onDisk' thn' moved' r ⟨cf, hr, hlk, hK, hN, hA⟩ x1 x2 x4 young dropped (upd mem_154 r164.toNatClampNeg r146) dsk fresh_154 released owed counted inMemory onDisk thn moved h H locs ls (lv_sub hl [1, 2, 3, 5] rfl) hP hD hS
    · rw [if_neg hc] at h
      refine lv_aload_n hx hb d_R_create_117 rfl (lv_at hl 0 rfl) ?_
      refine va_get (D := D) (ci := 2) (v := .ref h_p0_m) (C := R_R) (T := F_R) (N := 12) hx hb ht in_R hown hK hP 0 rfl rfl 0 (by decide) (ht _ f_R_7) (fun _ h9 => h9) rfl d_R_create_118 ?_
      refine lv_iload hx hb d_R_create_121 (lv_at hl 4 rfl) ?_
      refine lv_iload hx hb d_R_create_123 (lv_at hl 5 rfl) ?_
      obtain ⟨r125, h125, h⟩ := bd_some h
      refine wk_Si (As := [.int x4, .int x5]) (rest := [.ref h_p0_m]) (wc := []) (w1 := []) (wr := [(h_p0, .inr (2, [.ref h_p0_m, .ref h_p0_d, .ref h_p0_fresh, .ref h_p0_young, .ref h_p0_dropped, .ref h_p0_released, .ref h_p0_owed, .ref h_p0_counted, .ref h_p0_inMemory, .ref h_p0_onDisk, .ref h_p0_thn, .int moved])), (h_p0_m, .inl (cI, 1080, .inl mem)), (h_p0_d, .inl (cI, 1080, .inl dsk)), (h_p0_fresh, .inl (cZ, 36, .inl fresh)), (h_p0_young, .inl (cZ, 288, .inl young)), (h_p0_dropped, .inl (cI, 36, .inl dropped)), (h_p0_released, .inl (cZ, 18, .inl released)), (h_p0_owed, .inl (cI, 18, .inl owed)), (h_p0_counted, .inl (cI, 18, .inl counted)), (h_p0_inMemory, .inl (cZ, 18, .inl inMemory)), (h_p0_onDisk, .inl (cZ, 18, .inl onDisk)), (h_p0_thn, .inl (cZ, 18, .inl thn))]) (wz := (w_R cI cZ h_p0 h_p0_m h_p0_d h_p0_fresh h_p0_young h_p0_dropped h_p0_released h_p0_owed h_p0_counted h_p0_inMemory h_p0_onDisk h_p0_thn mem dsk fresh young dropped released owed counted inMemory onDisk thn moved)) cf hK hN hA (c_R_at l D cI cZ 0 x4 x5 r125 h125) k_R_44 ⟨rfl, rfl, by decide, by decide⟩ hl hP hD hS [] [0, 1, 2, 3, 4, 5, 6, 7, 8, 9, 10, 11] [0, 1, 2, 3, 4, 5, 6, 7, 8, 9, 10, 11] rfl rfl rfl (by decide) rfl rfl rfl rfl rfl (Nat.le_of_ble_eq_true rfl) rfl d_R_create_125 (fun H locs hP hD hS => ?_)
      refine lv_iconst (v := (nI 0)) hx hb d_R_create_128 (by decide) ?_
      obtain ⟨hin, h⟩ := ga_some h
      refine va_iast hx hb hK hP hD hS 1 0 rfl rfl hin d_R_create_129 (fun H locs hP hD hS => ?_)
      have hP : va_P D clA (w_R cI cZ h_p0 h_p0_m h_p0_d h_p0_fresh h_p0_young h_p0_dropped h_p0_released h_p0_owed h_p0_counted h_p0_inMemory h_p0_onDisk h_p0_thn (upd mem r125.toNatClampNeg (nI 0)) dsk fresh young dropped released owed counted inMemory onDisk thn moved) H := hP
      have hD : va_D A (w_R cI cZ h_p0 h_p0_m h_p0_d h_p0_fresh h_p0_young h_p0_dropped h_p0_released h_p0_owed h_p0_counted h_p0_inMemory h_p0_onDisk h_p0_thn (upd mem r125.toNatClampNeg (nI 0)) dsk fresh young dropped released owed counted inMemory onDisk thn moved) := hD
      refine lv_iinc (k := 5) (v := (x5 + (nI 1))) (lv' := [(5, .int (x5 + (nI 1))), (0, .ref h_p0), (1, .int x1), (2, .int x2), (3, .int x3), (4, .int x4)]) hx hb d_R_create_130 hl rfl rfl (by decide) rfl (fun ls hl => ?_)
      refine lv_goto hx hb d_R_create_133 rfl ?_
      exact ih x1 x2 x3 x4 (x5 + (nI 1)) young dropped (upd mem r125.toNatClampNeg (nI 0)) dsk fresh released owed counted inMemory onDisk thn moved h H locs ls (lv_sub hl [1, 2, 3, 4, 5, 0] rfl) hP hD hS
set_option maxHeartbeats 4000000 in
set_option maxRecDepth 100000 in
theorem w_R_create_107 {p : Program} {l : Launch} {e : Env} {s : State} {m : MethodId} {args : Array Value} {below : List Frame} {meth : Method} {c : Code} {D : va_G} {cI cZ : ClassId} {A : Nat → Prop} (h_p0 h_p0_m h_p0_d h_p0_fresh h_p0_young h_p0_dropped h_p0_released h_p0_owed h_p0_counted h_p0_inMemory h_p0_onDisk h_p0_thn : Nat) (F : Nat) (young' : (Nat → Int32)) (dropped' : (Nat → Int32)) (mem' : (Nat → Int32)) (dsk' : (Nat → Int32)) (fresh' : (Nat → Int32)) (released' : (Nat → Int32)) (owed' : (Nat → Int32)) (counted' : (Nat → Int32)) (inMemory' : (Nat → Int32)) (onDisk' : (Nat → Int32)) (thn' : (Nat → Int32)) (moved' : Int32) (r : Int32) (cx : cx_ok p s m args meth c b_R_create 6 o_R_create "OrderedVolumeModel" (some .int) D cI cZ A) : ∀ (x1 : Int32) (x2 : Int32) (x3 : Int32) (x4 : Int32) (t1 : Int32) (t2 : Int32) (young : (Nat → Int32)) (dropped : (Nat → Int32)) (mem : (Nat → Int32)) (dsk : (Nat → Int32)) (fresh : (Nat → Int32)) (released : (Nat → Int32)) (owed : (Nat → Int32)) (counted : (Nat → Int32)) (inMemory : (Nat → Int32)) (onDisk : (Nat → Int32)) (thn : (Nat → Int32)) (moved : Int32), s_R_create_107 F x1 x2 x3 x4 t1 t2 young dropped mem dsk fresh released owed counted inMemory onDisk thn moved = some (r, young', dropped', mem', dsk', fresh', released', owed', counted', inMemory', onDisk', thn', moved') → wk_G p l e rm_R_create s m args below meth c (sc_Qi below args s D cI cZ A (w_R cI cZ h_p0 h_p0_m h_p0_d h_p0_fresh h_p0_young h_p0_dropped h_p0_released h_p0_owed h_p0_counted h_p0_inMemory h_p0_onDisk h_p0_thn (mem') (dsk') (fresh') (young') (dropped') (released') (owed') (counted') (inMemory') (onDisk') (thn') (moved')) r) D A 6 107 [.int t2, .int t1, .ref h_p0_m] [(0, .ref h_p0), (1, .int x1), (2, .int x2), (3, .int x3), (4, .int x4)] (w_R cI cZ h_p0 h_p0_m h_p0_d h_p0_fresh h_p0_young h_p0_dropped h_p0_released h_p0_owed h_p0_counted h_p0_inMemory h_p0_onDisk h_p0_thn mem dsk fresh young dropped released owed counted inMemory onDisk thn moved) := by
  obtain ⟨cf, hr, hlk, hK, hN, hA⟩ := cx
  have hx := cf.1
  have hb := cf.2.1
  have hown := cf.2.2.2.1
  have ht : ∀ w ∈ wA, w.before args s = true := fun w h => cf.2.2.2.2 w (List.mem_cons_of_mem _ h)
  intro x1 x2 x3 x4 t1 t2 young dropped mem dsk fresh released owed counted inMemory onDisk thn moved h H locs ls hl hP hD hS
  unfold s_R_create_107 at h
  obtain ⟨hin, h⟩ := ga_some h
  refine va_iast hx hb hK hP hD hS 1 0 rfl rfl hin d_R_create_107 (fun H locs hP hD hS => ?_)
  have hP : va_P D clA (w_R cI cZ h_p0 h_p0_m h_p0_d h_p0_fresh h_p0_young h_p0_dropped h_p0_released h_p0_owed h_p0_counted h_p0_inMemory h_p0_onDisk h_p0_thn (upd mem t1.toNatClampNeg t2) dsk fresh young dropped released owed counted inMemory onDisk thn moved) H := hP
  have hD : va_D A (w_R cI cZ h_p0 h_p0_m h_p0_d h_p0_fresh h_p0_young h_p0_dropped h_p0_released h_p0_owed h_p0_counted h_p0_inMemory h_p0_onDisk h_p0_thn (upd mem t1.toNatClampNeg t2) dsk fresh young dropped released owed counted inMemory onDisk thn moved) := hD
  refine lv_iconst (v := (nI 1)) hx hb d_R_create_108 (by decide) ?_
  refine lv_istore (lv' := [(5, .int (nI 1)), (0, .ref h_p0), (1, .int x1), (2, .int x2), (3, .int x3), (4, .int x4)]) hx hb d_R_create_109 hl (by decide) rfl (fun ls hl => ?_)
  exact w_R_create_111 h_p0 h_p0_m h_p0_d h_p0_fresh h_p0_young h_p0_dropped h_p0_released h_p0_owed h_p0_counted h_p0_inMemory h_p0_onDisk h_p0_thn F young' dropped' mem' dsk' fresh' released' owed' counted' inMemory' onDisk' thn' moved' r ⟨cf, hr, hlk, hK, hN, hA⟩ F x1 x2 x3 x4 (nI 1) young dropped (upd mem t1.toNatClampNeg t2) dsk fresh released owed counted inMemory onDisk thn moved h H locs ls (lv_sub hl [1, 2, 3, 4, 5, 0] rfl) hP hD hS
set_option maxHeartbeats 4000000 in
set_option maxRecDepth 100000 in
theorem w_R_create_57 {p : Program} {l : Launch} {e : Env} {s : State} {m : MethodId} {args : Array Value} {below : List Frame} {meth : Method} {c : Code} {D : va_G} {cI cZ : ClassId} {A : Nat → Prop} (h_p0 h_p0_m h_p0_d h_p0_fresh h_p0_young h_p0_dropped h_p0_released h_p0_owed h_p0_counted h_p0_inMemory h_p0_onDisk h_p0_thn : Nat) (F : Nat) (young' : (Nat → Int32)) (dropped' : (Nat → Int32)) (mem' : (Nat → Int32)) (dsk' : (Nat → Int32)) (fresh' : (Nat → Int32)) (released' : (Nat → Int32)) (owed' : (Nat → Int32)) (counted' : (Nat → Int32)) (inMemory' : (Nat → Int32)) (onDisk' : (Nat → Int32)) (thn' : (Nat → Int32)) (moved' : Int32) (r : Int32) (cx : cx_ok p s m args meth c b_R_create 6 o_R_create "OrderedVolumeModel" (some .int) D cI cZ A) : ∀ (x1 : Int32) (x2 : Int32) (x3 : Int32) (young : (Nat → Int32)) (dropped : (Nat → Int32)) (mem : (Nat → Int32)) (dsk : (Nat → Int32)) (fresh : (Nat → Int32)) (released : (Nat → Int32)) (owed : (Nat → Int32)) (counted : (Nat → Int32)) (inMemory : (Nat → Int32)) (onDisk : (Nat → Int32)) (thn : (Nat → Int32)) (moved : Int32), s_R_create_57 F x1 x2 x3 young dropped mem dsk fresh released owed counted inMemory onDisk thn moved = some (r, young', dropped', mem', dsk', fresh', released', owed', counted', inMemory', onDisk', thn', moved') → wk_G p l e rm_R_create s m args below meth c (sc_Qi below args s D cI cZ A (w_R cI cZ h_p0 h_p0_m h_p0_d h_p0_fresh h_p0_young h_p0_dropped h_p0_released h_p0_owed h_p0_counted h_p0_inMemory h_p0_onDisk h_p0_thn (mem') (dsk') (fresh') (young') (dropped') (released') (owed') (counted') (inMemory') (onDisk') (thn') (moved')) r) D A 6 57 [] [(0, .ref h_p0), (1, .int x1), (2, .int x2), (3, .int x3)] (w_R cI cZ h_p0 h_p0_m h_p0_d h_p0_fresh h_p0_young h_p0_dropped h_p0_released h_p0_owed h_p0_counted h_p0_inMemory h_p0_onDisk h_p0_thn mem dsk fresh young dropped released owed counted inMemory onDisk thn moved) := by
  obtain ⟨cf, hr, hlk, hK, hN, hA⟩ := cx
  have hx := cf.1
  have hb := cf.2.1
  have hown := cf.2.2.2.1
  have ht : ∀ w ∈ wA, w.before args s = true := fun w h => cf.2.2.2.2 w (List.mem_cons_of_mem _ h)
  intro x1 x2 x3 young dropped mem dsk fresh released owed counted inMemory onDisk thn moved h H locs ls hl hP hD hS
  unfold s_R_create_57 at h
  refine lv_aload_n hx hb d_R_create_57 rfl (lv_at hl 0 rfl) ?_
  refine lv_iload_n hx hb d_R_create_58 rfl (lv_at hl 1 rfl) ?_
  refine lv_iload_n hx hb d_R_create_59 rfl (lv_at hl 3 rfl) ?_
  obtain ⟨r60, h60, h⟩ := bd_some h
  refine wk_Vi (As := [.int x1, .int x3]) (rest := []) (wc := (w_R cI cZ h_p0 h_p0_m h_p0_d h_p0_fresh h_p0_young h_p0_dropped h_p0_released h_p0_owed h_p0_counted h_p0_inMemory h_p0_onDisk h_p0_thn mem dsk fresh young dropped released owed counted inMemory onDisk thn moved)) (w1 := (w_R cI cZ h_p0 h_p0_m h_p0_d h_p0_fresh h_p0_young h_p0_dropped h_p0_released h_p0_owed h_p0_counted h_p0_inMemory h_p0_onDisk h_p0_thn mem dsk fresh young dropped released owed counted inMemory onDisk thn moved)) (wr := []) (wz := (w_R cI cZ h_p0 h_p0_m h_p0_d h_p0_fresh h_p0_young h_p0_dropped h_p0_released h_p0_owed h_p0_counted h_p0_inMemory h_p0_onDisk h_p0_thn mem dsk fresh young dropped released owed counted inMemory onDisk thn moved)) cf hK hN hA (c_R_room l D cI cZ h_p0 h_p0_m h_p0_d h_p0_fresh h_p0_young h_p0_dropped h_p0_released h_p0_owed h_p0_counted h_p0_inMemory h_p0_onDisk h_p0_thn F mem dsk fresh young dropped released owed counted inMemory onDisk thn moved x1 x3 r60 h60) k_R_119 ⟨rfl, rfl, by decide, by decide⟩ 2 rfl rfl rfl hl hP hD hS [0, 1, 2, 3, 4, 5, 6, 7, 8, 9, 10, 11] [] [0, 1, 2, 3, 4, 5, 6, 7, 8, 9, 10, 11] rfl rfl rfl (by decide) rfl rfl rfl rfl rfl (Nat.le_of_ble_eq_true rfl) rfl d_R_create_60 (fun H locs hP hD hS => ?_)
  refine lv_if_ne hx hb d_R_create_63 rfl (fun hc => ?_) (fun hc => ?_)
  · rw [if_neg hc] at h
    refine lv_aload_n hx hb d_R_create_69 rfl (lv_at hl 0 rfl) ?_
    refine lv_iload_n hx hb d_R_create_70 rfl (lv_at hl 1 rfl) ?_
    refine lv_iload_n hx hb d_R_create_71 rfl (lv_at hl 3 rfl) ?_
    obtain ⟨r72, h72, h⟩ := bd_some h
    refine wk_Vi (As := [.int x1, .int x3]) (rest := []) (wc := (w_R cI cZ h_p0 h_p0_m h_p0_d h_p0_fresh h_p0_young h_p0_dropped h_p0_released h_p0_owed h_p0_counted h_p0_inMemory h_p0_onDisk h_p0_thn mem dsk fresh young dropped released owed counted inMemory onDisk thn moved)) (w1 := (w_R cI cZ h_p0 h_p0_m h_p0_d h_p0_fresh h_p0_young h_p0_dropped h_p0_released h_p0_owed h_p0_counted h_p0_inMemory h_p0_onDisk h_p0_thn mem dsk fresh young dropped released owed counted inMemory onDisk thn moved)) (wr := []) (wz := (w_R cI cZ h_p0 h_p0_m h_p0_d h_p0_fresh h_p0_young h_p0_dropped h_p0_released h_p0_owed h_p0_counted h_p0_inMemory h_p0_onDisk h_p0_thn mem dsk fresh young dropped released owed counted inMemory onDisk thn moved)) cf hK hN hA (c_R_inodeFor l D cI cZ h_p0 h_p0_m h_p0_d h_p0_fresh h_p0_young h_p0_dropped h_p0_released h_p0_owed h_p0_counted h_p0_inMemory h_p0_onDisk h_p0_thn F mem dsk fresh young dropped released owed counted inMemory onDisk thn moved x1 x3 r72 h72) k_R_102 ⟨rfl, rfl, by decide, by decide⟩ 2 rfl rfl rfl hl hP hD hS [0, 1, 2, 3, 4, 5, 6, 7, 8, 9, 10, 11] [] [0, 1, 2, 3, 4, 5, 6, 7, 8, 9, 10, 11] rfl rfl rfl (by decide) rfl rfl rfl rfl rfl (Nat.le_of_ble_eq_true rfl) rfl d_R_create_72 (fun H locs hP hD hS => ?_)
    refine lv_istore (lv' := [(4, .int r72), (0, .ref h_p0), (1, .int x1), (2, .int x2), (3, .int x3)]) hx hb d_R_create_75 hl (by decide) rfl (fun ls hl => ?_)
    refine lv_aload_n hx hb d_R_create_77 rfl (lv_at hl 1 rfl) ?_
    refine va_get (D := D) (ci := 2) (v := .ref h_p0_m) (C := R_R) (T := F_R) (N := 12) hx hb ht in_R hown hK hP 0 rfl rfl 0 (by decide) (ht _ f_R_7) (fun _ h9 => h9) rfl d_R_create_78 ?_
    refine lv_iload hx hb d_R_create_81 (lv_at hl 0 rfl) ?_
    obtain ⟨r83, h83, h⟩ := bd_some h
    refine wk_Si (As := [.int r72]) (rest := [.ref h_p0_m]) (wc := []) (w1 := []) (wr := [(h_p0, .inr (2, [.ref h_p0_m, .ref h_p0_d, .ref h_p0_fresh, .ref h_p0_young, .ref h_p0_dropped, .ref h_p0_released, .ref h_p0_owed, .ref h_p0_counted, .ref h_p0_inMemory, .ref h_p0_onDisk, .ref h_p0_thn, .int moved])), (h_p0_m, .inl (cI, 1080, .inl mem)), (h_p0_d, .inl (cI, 1080, .inl dsk)), (h_p0_fresh, .inl (cZ, 36, .inl fresh)), (h_p0_young, .inl (cZ, 288, .inl young)), (h_p0_dropped, .inl (cI, 36, .inl dropped)), (h_p0_released, .inl (cZ, 18, .inl released)), (h_p0_owed, .inl (cI, 18, .inl owed)), (h_p0_counted, .inl (cI, 18, .inl counted)), (h_p0_inMemory, .inl (cZ, 18, .inl inMemory)), (h_p0_onDisk, .inl (cZ, 18, .inl onDisk)), (h_p0_thn, .inl (cZ, 18, .inl thn))]) (wz := (w_R cI cZ h_p0 h_p0_m h_p0_d h_p0_fresh h_p0_young h_p0_dropped h_p0_released h_p0_owed h_p0_counted h_p0_inMemory h_p0_onDisk h_p0_thn mem dsk fresh young dropped released owed counted inMemory onDisk thn moved)) cf hK hN hA (c_R_markOfInode l D cI cZ 0 r72 r83 h83) k_R_48 ⟨rfl, rfl, by decide, by decide⟩ hl hP hD hS [] [0, 1, 2, 3, 4, 5, 6, 7, 8, 9, 10, 11] [0, 1, 2, 3, 4, 5, 6, 7, 8, 9, 10, 11] rfl rfl rfl (by decide) rfl rfl rfl rfl rfl (Nat.le_of_ble_eq_true rfl) rfl d_R_create_83 (fun H locs hP hD hS => ?_)
    refine lv_iconst (v := (nI 1)) hx hb d_R_create_86 (by decide) ?_
    obtain ⟨hin, h⟩ := ga_some h
    refine va_iast hx hb hK hP hD hS 1 0 rfl rfl hin d_R_create_87 (fun H locs hP hD hS => ?_)
    have hP : va_P D clA (w_R cI cZ h_p0 h_p0_m h_p0_d h_p0_fresh h_p0_young h_p0_dropped h_p0_released h_p0_owed h_p0_counted h_p0_inMemory h_p0_onDisk h_p0_thn (upd mem r83.toNatClampNeg (nI 1)) dsk fresh young dropped released owed counted inMemory onDisk thn moved) H := hP
    have hD : va_D A (w_R cI cZ h_p0 h_p0_m h_p0_d h_p0_fresh h_p0_young h_p0_dropped h_p0_released h_p0_owed h_p0_counted h_p0_inMemory h_p0_onDisk h_p0_thn (upd mem r83.toNatClampNeg (nI 1)) dsk fresh young dropped released owed counted inMemory onDisk thn moved) := hD
    refine lv_aload_n hx hb d_R_create_88 rfl (lv_at hl 1 rfl) ?_
    refine va_get (D := D) (ci := 2) (v := .ref h_p0_m) (C := R_R) (T := F_R) (N := 12) hx hb ht in_R hown hK hP 0 rfl rfl 0 (by decide) (ht _ f_R_7) (fun _ h9 => h9) rfl d_R_create_89 ?_
    refine lv_iload hx hb d_R_create_92 (lv_at hl 0 rfl) ?_
    refine lv_iconst (v := (nI 0)) hx hb d_R_create_94 (by decide) ?_
    obtain ⟨r95, h95, h⟩ := bd_some h
    refine wk_Si (As := [.int r72, .int (nI 0)]) (rest := [.ref h_p0_m]) (wc := []) (w1 := []) (wr := [(h_p0, .inr (2, [.ref h_p0_m, .ref h_p0_d, .ref h_p0_fresh, .ref h_p0_young, .ref h_p0_dropped, .ref h_p0_released, .ref h_p0_owed, .ref h_p0_counted, .ref h_p0_inMemory, .ref h_p0_onDisk, .ref h_p0_thn, .int moved])), (h_p0_m, .inl (cI, 1080, .inl (upd mem r83.toNatClampNeg (nI 1)))), (h_p0_d, .inl (cI, 1080, .inl dsk)), (h_p0_fresh, .inl (cZ, 36, .inl fresh)), (h_p0_young, .inl (cZ, 288, .inl young)), (h_p0_dropped, .inl (cI, 36, .inl dropped)), (h_p0_released, .inl (cZ, 18, .inl released)), (h_p0_owed, .inl (cI, 18, .inl owed)), (h_p0_counted, .inl (cI, 18, .inl counted)), (h_p0_inMemory, .inl (cZ, 18, .inl inMemory)), (h_p0_onDisk, .inl (cZ, 18, .inl onDisk)), (h_p0_thn, .inl (cZ, 18, .inl thn))]) (wz := (w_R cI cZ h_p0 h_p0_m h_p0_d h_p0_fresh h_p0_young h_p0_dropped h_p0_released h_p0_owed h_p0_counted h_p0_inMemory h_p0_onDisk h_p0_thn (upd mem r83.toNatClampNeg (nI 1)) dsk fresh young dropped released owed counted inMemory onDisk thn moved)) cf hK hN hA (c_R_at l D cI cZ 0 r72 (nI 0) r95 h95) k_R_44 ⟨rfl, rfl, by decide, by decide⟩ hl hP hD hS [] [0, 1, 2, 3, 4, 5, 6, 7, 8, 9, 10, 11] [0, 1, 2, 3, 4, 5, 6, 7, 8, 9, 10, 11] rfl rfl rfl (by decide) rfl rfl rfl rfl rfl (Nat.le_of_ble_eq_true rfl) rfl d_R_create_95 (fun H locs hP hD hS => ?_)
    refine lv_iload_n hx hb d_R_create_98 rfl (lv_at hl 4 rfl) ?_
    refine lv_if_eq hx hb d_R_create_99 rfl (fun hc => ?_) (fun hc => ?_)
    · rw [if_pos hc] at h
      refine lv_iconst (v := (nI 1)) hx hb d_R_create_106 (by decide) ?_
      exact w_R_create_107 h_p0 h_p0_m h_p0_d h_p0_fresh h_p0_young h_p0_dropped h_p0_released h_p0_owed h_p0_counted h_p0_inMemory h_p0_onDisk h_p0_thn F young' dropped' mem' dsk' fresh' released' owed' counted' inMemory' onDisk' thn' moved' r ⟨cf, hr, hlk, hK, hN, hA⟩ x1 x2 x3 r72 r95 (nI 1) young dropped (upd mem r83.toNatClampNeg (nI 1)) dsk fresh released owed counted inMemory onDisk thn moved h H locs ls (lv_sub hl [1, 2, 3, 4, 0] rfl) hP hD hS
    · rw [if_neg hc] at h
      refine lv_iconst (v := (nI 2)) hx hb d_R_create_102 (by decide) ?_
      refine lv_goto hx hb d_R_create_103 rfl ?_
      exact w_R_create_107 h_p0 h_p0_m h_p0_d h_p0_fresh h_p0_young h_p0_dropped h_p0_released h_p0_owed h_p0_counted h_p0_inMemory h_p0_onDisk h_p0_thn F young' dropped' mem' dsk' fresh' released' owed' counted' inMemory' onDisk' thn' moved' r ⟨cf, hr, hlk, hK, hN, hA⟩ x1 x2 x3 r72 r95 (nI 2) young dropped (upd mem r83.toNatClampNeg (nI 1)) dsk fresh released owed counted inMemory onDisk thn moved h H locs ls (lv_sub hl [1, 2, 3, 4, 0] rfl) hP hD hS
  · rw [if_pos hc] at h
    refine lv_bipush (v := (-3)) hx hb d_R_create_66 (by decide) ?_
    cases h
    exact sc_iret cf hr hlk hK hP hD hS d_R_create_68
set_option maxHeartbeats 4000000 in
set_option maxRecDepth 100000 in
theorem c_R_create (l : Launch) (D : va_G) (cI cZ : ClassId) (h_p0 h_p0_m h_p0_d h_p0_fresh h_p0_young h_p0_dropped h_p0_released h_p0_owed h_p0_counted h_p0_inMemory h_p0_onDisk h_p0_thn : Nat) (F : Nat) (mem : (Nat → Int32)) (dsk : (Nat → Int32)) (fresh : (Nat → Int32)) (young : (Nat → Int32)) (dropped : (Nat → Int32)) (released : (Nat → Int32)) (owed : (Nat → Int32)) (counted : (Nat → Int32)) (inMemory : (Nat → Int32)) (onDisk : (Nat → Int32)) (thn : (Nat → Int32)) (moved : Int32) (young' : (Nat → Int32)) (dropped' : (Nat → Int32)) (mem' : (Nat → Int32)) (dsk' : (Nat → Int32)) (fresh' : (Nat → Int32)) (released' : (Nat → Int32)) (owed' : (Nat → Int32)) (counted' : (Nat → Int32)) (inMemory' : (Nat → Int32)) (onDisk' : (Nat → Int32)) (thn' : (Nat → Int32)) (moved' : Int32) (x1 : Int32) (x2 : Int32) (x3 : Int32) (r : Int32) (h : s_R_create F x1 x2 x3 young dropped mem dsk fresh released owed counted inMemory onDisk thn moved = some (r, young', dropped', mem', dsk', fresh', released', owed', counted', inMemory', onDisk', thn', moved')) : sc_i l y_R_create (o_R_create :: wA) rm_R_create D cI cZ [.ref h_p0, .int x1, .int x2, .int x3] (w_R cI cZ h_p0 h_p0_m h_p0_d h_p0_fresh h_p0_young h_p0_dropped h_p0_released h_p0_owed h_p0_counted h_p0_inMemory h_p0_onDisk h_p0_thn mem dsk fresh young dropped released owed counted inMemory onDisk thn moved) (w_R cI cZ h_p0 h_p0_m h_p0_d h_p0_fresh h_p0_young h_p0_dropped h_p0_released h_p0_owed h_p0_counted h_p0_inMemory h_p0_onDisk h_p0_thn (mem') (dsk') (fresh') (young') (dropped') (released') (owed') (counted') (inMemory') (onDisk') (thn') (moved')) r := by
  refine sc_i_of (cc := b_R_create) (maxL := 6) (ret := (some .int)) (by decide) rfl (Nat.le_of_ble_eq_true rfl) ?_
  intro p e s m below meth c A cf hr hlk hK hN hA H locs ls hl hP hD hS
  have hx := cf.1
  have hb := cf.2.1
  have hown := cf.2.2.2.1
  have ht : ∀ w ∈ wA, w.before _ s = true := fun w h => cf.2.2.2.2 w (List.mem_cons_of_mem _ h)
  unfold s_R_create at h
  have hl : lv_has ls 6 [(0, .ref h_p0), (1, .int x1), (2, .int x2), (3, .int x3)] := hl
  refine lv_iload_n hx hb d_R_create_0 rfl (lv_at hl 2 rfl) ?_
  obtain ⟨r1, h1, h⟩ := bd_some h
  refine wk_Si (As := [.int x2]) (rest := []) (wc := []) (w1 := []) (wr := [(h_p0, .inr (2, [.ref h_p0_m, .ref h_p0_d, .ref h_p0_fresh, .ref h_p0_young, .ref h_p0_dropped, .ref h_p0_released, .ref h_p0_owed, .ref h_p0_counted, .ref h_p0_inMemory, .ref h_p0_onDisk, .ref h_p0_thn, .int moved])), (h_p0_m, .inl (cI, 1080, .inl mem)), (h_p0_d, .inl (cI, 1080, .inl dsk)), (h_p0_fresh, .inl (cZ, 36, .inl fresh)), (h_p0_young, .inl (cZ, 288, .inl young)), (h_p0_dropped, .inl (cI, 36, .inl dropped)), (h_p0_released, .inl (cZ, 18, .inl released)), (h_p0_owed, .inl (cI, 18, .inl owed)), (h_p0_counted, .inl (cI, 18, .inl counted)), (h_p0_inMemory, .inl (cZ, 18, .inl inMemory)), (h_p0_onDisk, .inl (cZ, 18, .inl onDisk)), (h_p0_thn, .inl (cZ, 18, .inl thn))]) (wz := (w_R cI cZ h_p0 h_p0_m h_p0_d h_p0_fresh h_p0_young h_p0_dropped h_p0_released h_p0_owed h_p0_counted h_p0_inMemory h_p0_onDisk h_p0_thn mem dsk fresh young dropped released owed counted inMemory onDisk thn moved)) cf hK hN hA (c_R_isName l D cI cZ 0 x2 r1 h1) k_R_106 ⟨rfl, rfl, by decide, by decide⟩ hl hP hD hS [] [0, 1, 2, 3, 4, 5, 6, 7, 8, 9, 10, 11] [0, 1, 2, 3, 4, 5, 6, 7, 8, 9, 10, 11] rfl rfl rfl (by decide) rfl rfl rfl rfl rfl (Nat.le_of_ble_eq_true rfl) rfl d_R_create_1 (fun H locs hP hD hS => ?_)
  refine lv_if_eq hx hb d_R_create_4 rfl (fun hc => ?_) (fun hc => ?_)
  · rw [if_pos hc] at h
    refine lv_iconst (v := (-1)) hx hb d_R_create_16 (by decide) ?_
    cases h
    exact sc_iret cf hr hlk hK hP hD hS d_R_create_17
  · rw [if_neg hc] at h
    refine lv_aload_n hx hb d_R_create_7 rfl (lv_at hl 0 rfl) ?_
    refine lv_iload_n hx hb d_R_create_8 rfl (lv_at hl 1 rfl) ?_
    refine lv_iconst (v := (nI 2)) hx hb d_R_create_9 (by decide) ?_
    obtain ⟨⟨r10, inMemory_10⟩, h10, h⟩ := bd_some h
    dsimp only at h
    refine wk_Vi (As := [.int x1, .int (nI 2)]) (rest := []) (wc := (w_R cI cZ h_p0 h_p0_m h_p0_d h_p0_fresh h_p0_young h_p0_dropped h_p0_released h_p0_owed h_p0_counted h_p0_inMemory h_p0_onDisk h_p0_thn mem dsk fresh young dropped released owed counted inMemory onDisk thn moved)) (w1 := (w_R cI cZ h_p0 h_p0_m h_p0_d h_p0_fresh h_p0_young h_p0_dropped h_p0_released h_p0_owed h_p0_counted h_p0_inMemory h_p0_onDisk h_p0_thn mem dsk fresh young dropped released owed counted inMemory_10 onDisk thn moved)) (wr := []) (wz := (w_R cI cZ h_p0 h_p0_m h_p0_d h_p0_fresh h_p0_young h_p0_dropped h_p0_released h_p0_owed h_p0_counted h_p0_inMemory h_p0_onDisk h_p0_thn mem dsk fresh young dropped released owed counted inMemory_10 onDisk thn moved)) cf hK hN hA (c_R_holds l D cI cZ h_p0 h_p0_m h_p0_d h_p0_fresh h_p0_young h_p0_dropped h_p0_released h_p0_owed h_p0_counted h_p0_inMemory h_p0_onDisk h_p0_thn F mem dsk fresh young dropped released owed counted inMemory onDisk thn moved inMemory_10 x1 (nI 2) r10 h10) k_R_109 ⟨rfl, rfl, by decide, by decide⟩ 2 rfl rfl rfl hl hP hD hS [0, 1, 2, 3, 4, 5, 6, 7, 8, 9, 10, 11] [] [0, 1, 2, 3, 4, 5, 6, 7, 8, 9, 10, 11] rfl rfl rfl (by decide) rfl rfl rfl rfl rfl (Nat.le_of_ble_eq_true rfl) rfl d_R_create_10 (fun H locs hP hD hS => ?_)
    refine lv_if_ne hx hb d_R_create_13 rfl (fun hc => ?_) (fun hc => ?_)
    · rw [if_neg hc] at h
      refine lv_aload_n hx hb d_R_create_18 rfl (lv_at hl 0 rfl) ?_
      refine lv_iload_n hx hb d_R_create_19 rfl (lv_at hl 1 rfl) ?_
      refine lv_iload_n hx hb d_R_create_20 rfl (lv_at hl 2 rfl) ?_
      obtain ⟨r21, h21, h⟩ := bd_some h
      refine wk_Vi (As := [.int x1, .int x2]) (rest := []) (wc := (w_R cI cZ h_p0 h_p0_m h_p0_d h_p0_fresh h_p0_young h_p0_dropped h_p0_released h_p0_owed h_p0_counted h_p0_inMemory h_p0_onDisk h_p0_thn mem dsk fresh young dropped released owed counted inMemory_10 onDisk thn moved)) (w1 := (w_R cI cZ h_p0 h_p0_m h_p0_d h_p0_fresh h_p0_young h_p0_dropped h_p0_released h_p0_owed h_p0_counted h_p0_inMemory h_p0_onDisk h_p0_thn mem dsk fresh young dropped released owed counted inMemory_10 onDisk thn moved)) (wr := []) (wz := (w_R cI cZ h_p0 h_p0_m h_p0_d h_p0_fresh h_p0_young h_p0_dropped h_p0_released h_p0_owed h_p0_counted h_p0_inMemory h_p0_onDisk h_p0_thn mem dsk fresh young dropped released owed counted inMemory_10 onDisk thn moved)) cf hK hN hA (c_R_find l D cI cZ h_p0 h_p0_m h_p0_d h_p0_fresh h_p0_young h_p0_dropped h_p0_released h_p0_owed h_p0_counted h_p0_inMemory h_p0_onDisk h_p0_thn F mem dsk fresh young dropped released owed counted inMemory_10 onDisk thn moved x1 x2 r21 h21) k_R_113 ⟨rfl, rfl, by decide, by decide⟩ 2 rfl rfl rfl hl hP hD hS [0, 1, 2, 3, 4, 5, 6, 7, 8, 9, 10, 11] [] [0, 1, 2, 3, 4, 5, 6, 7, 8, 9, 10, 11] rfl rfl rfl (by decide) rfl rfl rfl rfl rfl (Nat.le_of_ble_eq_true rfl) rfl d_R_create_21 (fun H locs hP hD hS => ?_)
      refine lv_if_lt hx hb d_R_create_24 rfl (fun hc => ?_) (fun hc => ?_)
      · rw [if_pos hc] at h
        refine lv_aload_n hx hb d_R_create_30 rfl (lv_at hl 0 rfl) ?_
        refine lv_iload_n hx hb d_R_create_31 rfl (lv_at hl 1 rfl) ?_
        obtain ⟨r32, h32, h⟩ := bd_some h
        refine wk_Vi (As := [.int x1]) (rest := []) (wc := (w_R cI cZ h_p0 h_p0_m h_p0_d h_p0_fresh h_p0_young h_p0_dropped h_p0_released h_p0_owed h_p0_counted h_p0_inMemory h_p0_onDisk h_p0_thn mem dsk fresh young dropped released owed counted inMemory_10 onDisk thn moved)) (w1 := (w_R cI cZ h_p0 h_p0_m h_p0_d h_p0_fresh h_p0_young h_p0_dropped h_p0_released h_p0_owed h_p0_counted h_p0_inMemory h_p0_onDisk h_p0_thn mem dsk fresh young dropped released owed counted inMemory_10 onDisk thn moved)) (wr := []) (wz := (w_R cI cZ h_p0 h_p0_m h_p0_d h_p0_fresh h_p0_young h_p0_dropped h_p0_released h_p0_owed h_p0_counted h_p0_inMemory h_p0_onDisk h_p0_thn mem dsk fresh young dropped released owed counted inMemory_10 onDisk thn moved)) cf hK hN hA (c_R_entries l D cI cZ h_p0 h_p0_m h_p0_d h_p0_fresh h_p0_young h_p0_dropped h_p0_released h_p0_owed h_p0_counted h_p0_inMemory h_p0_onDisk h_p0_thn F mem dsk fresh young dropped released owed counted inMemory_10 onDisk thn moved x1 r32 h32) k_R_116 ⟨rfl, rfl, by decide, by decide⟩ 2 rfl rfl rfl hl hP hD hS [0, 1, 2, 3, 4, 5, 6, 7, 8, 9, 10, 11] [] [0, 1, 2, 3, 4, 5, 6, 7, 8, 9, 10, 11] rfl rfl rfl (by decide) rfl rfl rfl rfl rfl (Nat.le_of_ble_eq_true rfl) rfl d_R_create_32 (fun H locs hP hD hS => ?_)
        refine lv_bipush (v := (nI 8)) hx hb d_R_create_35 (by decide) ?_
        refine lv_icmp_ne hx hb d_R_create_37 rfl (fun hc => ?_) (fun hc => ?_)
        · rw [if_neg hc] at h
          refine lv_aload_n hx hb d_R_create_43 rfl (lv_at hl 0 rfl) ?_
          refine lv_iload_n hx hb d_R_create_44 rfl (lv_at hl 1 rfl) ?_
          refine lv_iload_n hx hb d_R_create_45 rfl (lv_at hl 3 rfl) ?_
          obtain ⟨r46, h46, h⟩ := bd_some h
          refine wk_Vi (As := [.int x1, .int x3]) (rest := []) (wc := (w_R cI cZ h_p0 h_p0_m h_p0_d h_p0_fresh h_p0_young h_p0_dropped h_p0_released h_p0_owed h_p0_counted h_p0_inMemory h_p0_onDisk h_p0_thn mem dsk fresh young dropped released owed counted inMemory_10 onDisk thn moved)) (w1 := (w_R cI cZ h_p0 h_p0_m h_p0_d h_p0_fresh h_p0_young h_p0_dropped h_p0_released h_p0_owed h_p0_counted h_p0_inMemory h_p0_onDisk h_p0_thn mem dsk fresh young dropped released owed counted inMemory_10 onDisk thn moved)) (wr := []) (wz := (w_R cI cZ h_p0 h_p0_m h_p0_d h_p0_fresh h_p0_young h_p0_dropped h_p0_released h_p0_owed h_p0_counted h_p0_inMemory h_p0_onDisk h_p0_thn mem dsk fresh young dropped released owed counted inMemory_10 onDisk thn moved)) cf hK hN hA (c_R_room l D cI cZ h_p0 h_p0_m h_p0_d h_p0_fresh h_p0_young h_p0_dropped h_p0_released h_p0_owed h_p0_counted h_p0_inMemory h_p0_onDisk h_p0_thn F mem dsk fresh young dropped released owed counted inMemory_10 onDisk thn moved x1 x3 r46 h46) k_R_119 ⟨rfl, rfl, by decide, by decide⟩ 2 rfl rfl rfl hl hP hD hS [0, 1, 2, 3, 4, 5, 6, 7, 8, 9, 10, 11] [] [0, 1, 2, 3, 4, 5, 6, 7, 8, 9, 10, 11] rfl rfl rfl (by decide) rfl rfl rfl rfl rfl (Nat.le_of_ble_eq_true rfl) rfl d_R_create_46 (fun H locs hP hD hS => ?_)
          refine lv_if_ne hx hb d_R_create_49 rfl (fun hc => ?_) (fun hc => ?_)
          · rw [if_neg hc] at h
            exact w_R_create_57 h_p0 h_p0_m h_p0_d h_p0_fresh h_p0_young h_p0_dropped h_p0_released h_p0_owed h_p0_counted h_p0_inMemory h_p0_onDisk h_p0_thn F young' dropped' mem' dsk' fresh' released' owed' counted' inMemory' onDisk' thn' moved' r ⟨cf, hr, hlk, hK, hN, hA⟩ x1 x2 x3 young dropped mem dsk fresh released owed counted inMemory_10 onDisk thn moved h H locs ls (lv_sub hl [0, 1, 2, 3] rfl) hP hD hS
          · rw [if_pos hc] at h
            refine lv_aload_n hx hb d_R_create_52 rfl (lv_at hl 0 rfl) ?_
            obtain ⟨⟨r53, young_53, dropped_53, mem_53, dsk_53, fresh_53, released_53, owed_53, counted_53, inMemory_53, onDisk_53, thn_53, moved_53⟩, h53, h⟩ := bd_some h
            dsimp only at h
            refine wk_Vi (As := []) (rest := []) (wc := (w_R cI cZ h_p0 h_p0_m h_p0_d h_p0_fresh h_p0_young h_p0_dropped h_p0_released h_p0_owed h_p0_counted h_p0_inMemory h_p0_onDisk h_p0_thn mem dsk fresh young dropped released owed counted inMemory_10 onDisk thn moved)) (w1 := (w_R cI cZ h_p0 h_p0_m h_p0_d h_p0_fresh h_p0_young h_p0_dropped h_p0_released h_p0_owed h_p0_counted h_p0_inMemory h_p0_onDisk h_p0_thn mem_53 dsk_53 fresh_53 young_53 dropped_53 released_53 owed_53 counted_53 inMemory_53 onDisk_53 thn_53 moved_53)) (wr := []) (wz := (w_R cI cZ h_p0 h_p0_m h_p0_d h_p0_fresh h_p0_young h_p0_dropped h_p0_released h_p0_owed h_p0_counted h_p0_inMemory h_p0_onDisk h_p0_thn mem_53 dsk_53 fresh_53 young_53 dropped_53 released_53 owed_53 counted_53 inMemory_53 onDisk_53 thn_53 moved_53)) cf hK hN hA (c_R_sync l D cI cZ h_p0 h_p0_m h_p0_d h_p0_fresh h_p0_young h_p0_dropped h_p0_released h_p0_owed h_p0_counted h_p0_inMemory h_p0_onDisk h_p0_thn F mem dsk fresh young dropped released owed counted inMemory_10 onDisk thn moved young_53 dropped_53 mem_53 dsk_53 fresh_53 released_53 owed_53 counted_53 inMemory_53 onDisk_53 thn_53 moved_53 r53 h53) k_R_123 ⟨rfl, rfl, by decide, by decide⟩ 2 rfl rfl rfl hl hP hD hS [0, 1, 2, 3, 4, 5, 6, 7, 8, 9, 10, 11] [] [0, 1, 2, 3, 4, 5, 6, 7, 8, 9, 10, 11] rfl rfl rfl (by decide) rfl rfl rfl rfl rfl (Nat.le_of_ble_eq_true rfl) rfl d_R_create_53 (fun H locs hP hD hS => ?_)
            refine lv_pop hx hb d_R_create_56 rfl ?_
            exact w_R_create_57 h_p0 h_p0_m h_p0_d h_p0_fresh h_p0_young h_p0_dropped h_p0_released h_p0_owed h_p0_counted h_p0_inMemory h_p0_onDisk h_p0_thn F young' dropped' mem' dsk' fresh' released' owed' counted' inMemory' onDisk' thn' moved' r ⟨cf, hr, hlk, hK, hN, hA⟩ x1 x2 x3 young_53 dropped_53 mem_53 dsk_53 fresh_53 released_53 owed_53 counted_53 inMemory_53 onDisk_53 thn_53 moved_53 h H locs ls (lv_sub hl [0, 1, 2, 3] rfl) hP hD hS
        · rw [if_pos hc] at h
          refine lv_bipush (v := (-3)) hx hb d_R_create_40 (by decide) ?_
          cases h
          exact sc_iret cf hr hlk hK hP hD hS d_R_create_42
      · rw [if_neg hc] at h
        refine lv_bipush (v := (-2)) hx hb d_R_create_27 (by decide) ?_
        cases h
        exact sc_iret cf hr hlk hK hP hD hS d_R_create_29
    · rw [if_pos hc] at h
      refine lv_iconst (v := (-1)) hx hb d_R_create_16 (by decide) ?_
      cases h
      exact sc_iret cf hr hlk hK hP hD hS d_R_create_17
set_option maxHeartbeats 4000000 in
set_option maxRecDepth 100000 in
theorem w_R_cut_25 {p : Program} {l : Launch} {e : Env} {s : State} {m : MethodId} {args : Array Value} {below : List Frame} {meth : Method} {c : Code} {D : va_G} {cI cZ : ClassId} {A : Nat → Prop} (h_p0 h_p0_m h_p0_d h_p0_fresh h_p0_young h_p0_dropped h_p0_released h_p0_owed h_p0_counted h_p0_inMemory h_p0_onDisk h_p0_thn : Nat) (F : Nat) (dsk : (Nat → Int32)) (fresh : (Nat → Int32)) (young : (Nat → Int32)) (onDisk : (Nat → Int32)) (thn : (Nat → Int32)) (moved : Int32) (dropped' : (Nat → Int32)) (mem' : (Nat → Int32)) (released' : (Nat → Int32)) (owed' : (Nat → Int32)) (counted' : (Nat → Int32)) (inMemory' : (Nat → Int32)) (r : Int32) (cx : cx_ok p s m args meth c b_R_cut 5 o_R_cut "OrderedVolumeModel" (some .int) D cI cZ A) : ∀ (n : Nat) (x1 : Int32) (x3 : Int32) (x4 : Int32) (dropped : (Nat → Int32)) (mem : (Nat → Int32)) (released : (Nat → Int32)) (owed : (Nat → Int32)) (counted : (Nat → Int32)) (inMemory : (Nat → Int32)), s_R_cut_25 F dsk fresh n x1 x3 x4 dropped mem released owed counted inMemory = some (r, dropped', mem', released', owed', counted', inMemory') → wk_G p l e rm_R_cut s m args below meth c (sc_Qi below args s D cI cZ A (w_R cI cZ h_p0 h_p0_m h_p0_d h_p0_fresh h_p0_young h_p0_dropped h_p0_released h_p0_owed h_p0_counted h_p0_inMemory h_p0_onDisk h_p0_thn (mem') dsk fresh young (dropped') (released') (owed') (counted') (inMemory') onDisk thn moved) r) D A 5 25 [] [(0, .ref h_p0), (1, .int x1), (3, .int x3), (4, .int x4)] (w_R cI cZ h_p0 h_p0_m h_p0_d h_p0_fresh h_p0_young h_p0_dropped h_p0_released h_p0_owed h_p0_counted h_p0_inMemory h_p0_onDisk h_p0_thn mem dsk fresh young dropped released owed counted inMemory onDisk thn moved) := by
  obtain ⟨cf, hr, hlk, hK, hN, hA⟩ := cx
  have hx := cf.1
  have hb := cf.2.1
  have hown := cf.2.2.2.1
  have ht : ∀ w ∈ wA, w.before args s = true := fun w h => cf.2.2.2.2 w (List.mem_cons_of_mem _ h)
  intro n
  induction n with
  | zero => intro x1 x3 x4 dropped mem released owed counted inMemory h; cases (show (none : Option (Int32 × (Nat → Int32) × (Nat → Int32) × (Nat → Int32) × (Nat → Int32) × (Nat → Int32) × (Nat → Int32))) = some _ from h)
  | succ n ih =>
    intro x1 x3 x4 dropped mem released owed counted inMemory h H locs ls hl hP hD hS
    unfold s_R_cut_25 at h
    refine lv_iload hx hb d_R_cut_25 (lv_at hl 3 rfl) ?_
    refine lv_iconst (v := (nI 3)) hx hb d_R_cut_27 (by decide) ?_
    refine lv_icmp_ge hx hb d_R_cut_28 rfl (fun hc => ?_) (fun hc => ?_)
    · rw [if_pos hc] at h
      refine lv_aload_n hx hb d_R_cut_47 rfl (lv_at hl 0 rfl) ?_
      obtain ⟨⟨dropped_48, mem_48, released_48, owed_48, counted_48⟩, h48, h⟩ := bd_some h
      dsimp only at h
      refine wk_Vv (As := []) (rest := []) (wc := (w_R cI cZ h_p0 h_p0_m h_p0_d h_p0_fresh h_p0_young h_p0_dropped h_p0_released h_p0_owed h_p0_counted h_p0_inMemory h_p0_onDisk h_p0_thn mem dsk fresh young dropped released owed counted inMemory onDisk thn moved)) (w1 := (w_R cI cZ h_p0 h_p0_m h_p0_d h_p0_fresh h_p0_young h_p0_dropped h_p0_released h_p0_owed h_p0_counted h_p0_inMemory h_p0_onDisk h_p0_thn mem_48 dsk fresh young dropped_48 released_48 owed_48 counted_48 inMemory onDisk thn moved)) (wr := []) (wz := (w_R cI cZ h_p0 h_p0_m h_p0_d h_p0_fresh h_p0_young h_p0_dropped h_p0_released h_p0_owed h_p0_counted h_p0_inMemory h_p0_onDisk h_p0_thn mem_48 dsk fresh young dropped_48 released_48 owed_48 counted_48 inMemory onDisk thn moved)) cf hK hN hA (c_R_settle l D cI cZ h_p0 h_p0_m h_p0_d h_p0_fresh h_p0_young h_p0_dropped h_p0_released h_p0_owed h_p0_counted h_p0_inMemory h_p0_onDisk h_p0_thn F mem dsk fresh young dropped released owed counted inMemory onDisk thn moved dropped_48 mem_48 released_48 owed_48 counted_48 h48) k_R_79 ⟨rfl, rfl, by decide, by decide⟩ 2 rfl rfl rfl hl hP hD hS [0, 1, 2, 3, 4, 5, 6, 7, 8, 9, 10, 11] [] [0, 1, 2, 3, 4, 5, 6, 7, 8, 9, 10, 11] rfl rfl rfl (by decide) rfl rfl rfl rfl rfl (Nat.le_of_ble_eq_true rfl) rfl d_R_cut_48 (fun H locs hP hD hS => ?_)
      refine lv_iload_n hx hb d_R_cut_51 rfl (lv_at hl 2 rfl) ?_
      cases h
      exact sc_iret cf hr hlk hK hP hD hS d_R_cut_52
    · rw [if_neg hc] at h
      refine lv_iload_n hx hb d_R_cut_31 rfl (lv_at hl 2 rfl) ?_
      refine lv_aload_n hx hb d_R_cut_32 rfl (lv_at hl 0 rfl) ?_
      refine lv_iload_n hx hb d_R_cut_33 rfl (lv_at hl 1 rfl) ?_
      refine lv_iload hx hb d_R_cut_34 (lv_at hl 3 rfl) ?_
      obtain ⟨⟨r36, dropped_36, mem_36⟩, h36, h⟩ := bd_some h
      dsimp only at h
      refine wk_Vi (As := [.int x1, .int x4]) (rest := [.int x3]) (wc := (w_R cI cZ h_p0 h_p0_m h_p0_d h_p0_fresh h_p0_young h_p0_dropped h_p0_released h_p0_owed h_p0_counted h_p0_inMemory h_p0_onDisk h_p0_thn mem dsk fresh young dropped released owed counted inMemory onDisk thn moved)) (w1 := (w_R cI cZ h_p0 h_p0_m h_p0_d h_p0_fresh h_p0_young h_p0_dropped h_p0_released h_p0_owed h_p0_counted h_p0_inMemory h_p0_onDisk h_p0_thn mem_36 dsk fresh young dropped_36 released owed counted inMemory onDisk thn moved)) (wr := []) (wz := (w_R cI cZ h_p0 h_p0_m h_p0_d h_p0_fresh h_p0_young h_p0_dropped h_p0_released h_p0_owed h_p0_counted h_p0_inMemory h_p0_onDisk h_p0_thn mem_36 dsk fresh young dropped_36 released owed counted inMemory onDisk thn moved)) cf hK hN hA (c_R_drop l D cI cZ h_p0 h_p0_m h_p0_d h_p0_fresh h_p0_young h_p0_dropped h_p0_released h_p0_owed h_p0_counted h_p0_inMemory h_p0_onDisk h_p0_thn mem dsk fresh young dropped released owed counted inMemory onDisk thn moved dropped_36 mem_36 x1 x4 r36 h36) k_R_82 ⟨rfl, rfl, by decide, by decide⟩ 2 rfl rfl rfl hl hP hD hS [0, 1, 2, 3, 4, 5, 6, 7, 8, 9, 10, 11] [] [0, 1, 2, 3, 4, 5, 6, 7, 8, 9, 10, 11] rfl rfl rfl (by decide) rfl rfl rfl rfl rfl (Nat.le_of_ble_eq_true rfl) rfl d_R_cut_36 (fun H locs hP hD hS => ?_)
      refine lv_iadd hx hb d_R_cut_39 ?_
      refine lv_istore_n (lv' := [(3, .int (x3 + r36)), (0, .ref h_p0), (1, .int x1), (4, .int x4)]) hx hb d_R_cut_40 rfl hl (by decide) rfl (fun ls hl => ?_)
      refine lv_iinc (k := 3) (v := (x4 + (nI 1))) (lv' := [(4, .int (x4 + (nI 1))), (3, .int (x3 + r36)), (0, .ref h_p0), (1, .int x1)]) hx hb d_R_cut_41 hl rfl rfl (by decide) rfl (fun ls hl => ?_)
      refine lv_goto hx hb d_R_cut_44 rfl ?_
      exact ih x1 (x3 + r36) (x4 + (nI 1)) dropped_36 mem_36 released owed counted inMemory h H locs ls (lv_sub hl [2, 3, 1, 0] rfl) hP hD hS
set_option maxHeartbeats 4000000 in
set_option maxRecDepth 100000 in
theorem c_R_cut (l : Launch) (D : va_G) (cI cZ : ClassId) (h_p0 h_p0_m h_p0_d h_p0_fresh h_p0_young h_p0_dropped h_p0_released h_p0_owed h_p0_counted h_p0_inMemory h_p0_onDisk h_p0_thn : Nat) (F : Nat) (mem : (Nat → Int32)) (dsk : (Nat → Int32)) (fresh : (Nat → Int32)) (young : (Nat → Int32)) (dropped : (Nat → Int32)) (released : (Nat → Int32)) (owed : (Nat → Int32)) (counted : (Nat → Int32)) (inMemory : (Nat → Int32)) (onDisk : (Nat → Int32)) (thn : (Nat → Int32)) (moved : Int32) (dropped' : (Nat → Int32)) (mem' : (Nat → Int32)) (released' : (Nat → Int32)) (owed' : (Nat → Int32)) (counted' : (Nat → Int32)) (inMemory' : (Nat → Int32)) (x1 : Int32) (x2 : Int32) (r : Int32) (h : s_R_cut F dsk fresh x1 x2 dropped mem released owed counted inMemory = some (r, dropped', mem', released', owed', counted', inMemory')) : sc_i l y_R_cut (o_R_cut :: wA) rm_R_cut D cI cZ [.ref h_p0, .int x1, .int x2] (w_R cI cZ h_p0 h_p0_m h_p0_d h_p0_fresh h_p0_young h_p0_dropped h_p0_released h_p0_owed h_p0_counted h_p0_inMemory h_p0_onDisk h_p0_thn mem dsk fresh young dropped released owed counted inMemory onDisk thn moved) (w_R cI cZ h_p0 h_p0_m h_p0_d h_p0_fresh h_p0_young h_p0_dropped h_p0_released h_p0_owed h_p0_counted h_p0_inMemory h_p0_onDisk h_p0_thn (mem') dsk fresh young (dropped') (released') (owed') (counted') (inMemory') onDisk thn moved) r := by
  refine sc_i_of (cc := b_R_cut) (maxL := 5) (ret := (some .int)) (by decide) rfl (Nat.le_of_ble_eq_true rfl) ?_
  intro p e s m below meth c A cf hr hlk hK hN hA H locs ls hl hP hD hS
  have hx := cf.1
  have hb := cf.2.1
  have hown := cf.2.2.2.1
  have ht : ∀ w ∈ wA, w.before _ s = true := fun w h => cf.2.2.2.2 w (List.mem_cons_of_mem _ h)
  unfold s_R_cut at h
  have hl : lv_has ls 5 [(0, .ref h_p0), (1, .int x1), (2, .int x2)] := hl
  refine lv_iload_n hx hb d_R_cut_0 rfl (lv_at hl 2 rfl) ?_
  refine lv_if_lt hx hb d_R_cut_1 rfl (fun hc => ?_) (fun hc => ?_)
  · rw [if_pos hc] at h
    refine lv_iconst (v := (-1)) hx hb d_R_cut_18 (by decide) ?_
    cases h
    exact sc_iret cf hr hlk hK hP hD hS d_R_cut_19
  · rw [if_neg hc] at h
    refine lv_iload_n hx hb d_R_cut_4 rfl (lv_at hl 2 rfl) ?_
    refine lv_iconst (v := (nI 3)) hx hb d_R_cut_5 (by decide) ?_
    refine lv_icmp_gt hx hb d_R_cut_6 rfl (fun hc => ?_) (fun hc => ?_)
    · rw [if_pos hc] at h
      refine lv_iconst (v := (-1)) hx hb d_R_cut_18 (by decide) ?_
      cases h
      exact sc_iret cf hr hlk hK hP hD hS d_R_cut_19
    · rw [if_neg hc] at h
      refine lv_aload_n hx hb d_R_cut_9 rfl (lv_at hl 0 rfl) ?_
      refine lv_iload_n hx hb d_R_cut_10 rfl (lv_at hl 1 rfl) ?_
      refine lv_iconst (v := (nI 1)) hx hb d_R_cut_11 (by decide) ?_
      obtain ⟨⟨r12, inMemory_12⟩, h12, h⟩ := bd_some h
      dsimp only at h
      refine wk_Vi (As := [.int x1, .int (nI 1)]) (rest := []) (wc := (w_R cI cZ h_p0 h_p0_m h_p0_d h_p0_fresh h_p0_young h_p0_dropped h_p0_released h_p0_owed h_p0_counted h_p0_inMemory h_p0_onDisk h_p0_thn mem dsk fresh young dropped released owed counted inMemory onDisk thn moved)) (w1 := (w_R cI cZ h_p0 h_p0_m h_p0_d h_p0_fresh h_p0_young h_p0_dropped h_p0_released h_p0_owed h_p0_counted h_p0_inMemory h_p0_onDisk h_p0_thn mem dsk fresh young dropped released owed counted inMemory_12 onDisk thn moved)) (wr := []) (wz := (w_R cI cZ h_p0 h_p0_m h_p0_d h_p0_fresh h_p0_young h_p0_dropped h_p0_released h_p0_owed h_p0_counted h_p0_inMemory h_p0_onDisk h_p0_thn mem dsk fresh young dropped released owed counted inMemory_12 onDisk thn moved)) cf hK hN hA (c_R_holds l D cI cZ h_p0 h_p0_m h_p0_d h_p0_fresh h_p0_young h_p0_dropped h_p0_released h_p0_owed h_p0_counted h_p0_inMemory h_p0_onDisk h_p0_thn F mem dsk fresh young dropped released owed counted inMemory onDisk thn moved inMemory_12 x1 (nI 1) r12 h12) k_R_109 ⟨rfl, rfl, by decide, by decide⟩ 2 rfl rfl rfl hl hP hD hS [0, 1, 2, 3, 4, 5, 6, 7, 8, 9, 10, 11] [] [0, 1, 2, 3, 4, 5, 6, 7, 8, 9, 10, 11] rfl rfl rfl (by decide) rfl rfl rfl rfl rfl (Nat.le_of_ble_eq_true rfl) rfl d_R_cut_12 (fun H locs hP hD hS => ?_)
      refine lv_if_ne hx hb d_R_cut_15 rfl (fun hc => ?_) (fun hc => ?_)
      · rw [if_neg hc] at h
        refine lv_iconst (v := (nI 0)) hx hb d_R_cut_20 (by decide) ?_
        refine lv_istore_n (lv' := [(3, .int (nI 0)), (0, .ref h_p0), (1, .int x1), (2, .int x2)]) hx hb d_R_cut_21 rfl hl (by decide) rfl (fun ls hl => ?_)
        refine lv_iload_n hx hb d_R_cut_22 rfl (lv_at hl 3 rfl) ?_
        refine lv_istore (lv' := [(4, .int x2), (3, .int (nI 0)), (0, .ref h_p0), (1, .int x1), (2, .int x2)]) hx hb d_R_cut_23 hl (by decide) rfl (fun ls hl => ?_)
        exact w_R_cut_25 h_p0 h_p0_m h_p0_d h_p0_fresh h_p0_young h_p0_dropped h_p0_released h_p0_owed h_p0_counted h_p0_inMemory h_p0_onDisk h_p0_thn F dsk fresh young onDisk thn moved dropped' mem' released' owed' counted' inMemory' r ⟨cf, hr, hlk, hK, hN, hA⟩ F x1 (nI 0) x2 dropped mem released owed counted inMemory_12 h H locs ls (lv_sub hl [2, 3, 1, 0] rfl) hP hD hS
      · rw [if_pos hc] at h
        refine lv_iconst (v := (-1)) hx hb d_R_cut_18 (by decide) ?_
        cases h
        exact sc_iret cf hr hlk hK hP hD hS d_R_cut_19
set_option maxHeartbeats 4000000 in
set_option maxRecDepth 100000 in
theorem w_R_entriesFor_onDisk_154 {p : Program} {l : Launch} {e : Env} {s : State} {m : MethodId} {args : Array Value} {below : List Frame} {meth : Method} {c : Code} {D : va_G} {cI cZ : ClassId} {A : Nat → Prop} (h_p0 h_p0_m h_p0_d h_p0_fresh h_p0_young h_p0_dropped h_p0_released h_p0_owed h_p0_counted h_p0_inMemory h_p0_onDisk h_p0_thn : Nat) (F : Nat) (mem : (Nat → Int32)) (dsk : (Nat → Int32)) (fresh : (Nat → Int32)) (young : (Nat → Int32)) (dropped : (Nat → Int32)) (released : (Nat → Int32)) (owed : (Nat → Int32)) (counted : (Nat → Int32)) (inMemory : (Nat → Int32)) (onDisk : (Nat → Int32)) (thn : (Nat → Int32)) (moved : Int32) (r : Int32) (k6 : Int32 → Int32 → Int32 → Int32 → Option (Int32)) (k78 : Int32 → Int32 → Int32 → Int32 → Int32 → Int32 → Int32 → Option (Int32)) (cx : cx_ok p s m args meth c b_R_entriesFor 10 o_R_entriesFor "OrderedVolumeModel" (some .int) D cI cZ A) (h6 : (∀ (x1 : Int32) (x3 : Int32) (x4 : Int32) (x5 : Int32), k6 x1 x3 x4 x5 = some r → wk_G p l e rm_R_entriesFor s m args below meth c (sc_Qi below args s D cI cZ A (w_R cI cZ h_p0 h_p0_m h_p0_d h_p0_fresh h_p0_young h_p0_dropped h_p0_released h_p0_owed h_p0_counted h_p0_inMemory h_p0_onDisk h_p0_thn mem dsk fresh young dropped released owed counted inMemory onDisk thn moved) r) D A 10 6 [] [(0, .ref h_p0), (2, .ref h_p0_onDisk), (1, .int x1), (3, .int x3), (4, .int x4), (5, .int x5)] (w_R cI cZ h_p0 h_p0_m h_p0_d h_p0_fresh h_p0_young h_p0_dropped h_p0_released h_p0_owed h_p0_counted h_p0_inMemory h_p0_onDisk h_p0_thn mem dsk fresh young dropped released owed counted inMemory onDisk thn moved))) (h78 : (∀ (x1 : Int32) (x3 : Int32) (x4 : Int32) (x5 : Int32) (x6 : Int32) (x7 : Int32) (x8 : Int32), k78 x1 x3 x4 x5 x6 x7 x8 = some r → wk_G p l e rm_R_entriesFor s m args below meth c (sc_Qi below args s D cI cZ A (w_R cI cZ h_p0 h_p0_m h_p0_d h_p0_fresh h_p0_young h_p0_dropped h_p0_released h_p0_owed h_p0_counted h_p0_inMemory h_p0_onDisk h_p0_thn mem dsk fresh young dropped released owed counted inMemory onDisk thn moved) r) D A 10 78 [] [(0, .ref h_p0), (2, .ref h_p0_onDisk), (1, .int x1), (3, .int x3), (4, .int x4), (5, .int x5), (6, .int x6), (7, .int x7), (8, .int x8)] (w_R cI cZ h_p0 h_p0_m h_p0_d h_p0_fresh h_p0_young h_p0_dropped h_p0_released h_p0_owed h_p0_counted h_p0_inMemory h_p0_onDisk h_p0_thn mem dsk fresh young dropped released owed counted inMemory onDisk thn moved))) : ∀ (x1 : Int32) (x3 : Int32) (x4 : Int32) (x5 : Int32) (x6 : Int32) (x7 : Int32) (x8 : Int32), s_R_entriesFor_onDisk_154 F mem dsk fresh onDisk k6 k78 x1 x3 x4 x5 x6 x7 x8 = some r → wk_G p l e rm_R_entriesFor s m args below meth c (sc_Qi below args s D cI cZ A (w_R cI cZ h_p0 h_p0_m h_p0_d h_p0_fresh h_p0_young h_p0_dropped h_p0_released h_p0_owed h_p0_counted h_p0_inMemory h_p0_onDisk h_p0_thn mem dsk fresh young dropped released owed counted inMemory onDisk thn moved) r) D A 10 154 [] [(0, .ref h_p0), (2, .ref h_p0_onDisk), (1, .int x1), (3, .int x3), (4, .int x4), (5, .int x5), (6, .int x6), (7, .int x7), (8, .int x8)] (w_R cI cZ h_p0 h_p0_m h_p0_d h_p0_fresh h_p0_young h_p0_dropped h_p0_released h_p0_owed h_p0_counted h_p0_inMemory h_p0_onDisk h_p0_thn mem dsk fresh young dropped released owed counted inMemory onDisk thn moved) := by
  obtain ⟨cf, hr, hlk, hK, hN, hA⟩ := cx
  have hx := cf.1
  have hb := cf.2.1
  have hown := cf.2.2.2.1
  have ht : ∀ w ∈ wA, w.before args s = true := fun w h => cf.2.2.2.2 w (List.mem_cons_of_mem _ h)
  intro x1 x3 x4 x5 x6 x7 x8 h H locs ls hl hP hD hS
  unfold s_R_entriesFor_onDisk_154 at h
  refine lv_iload hx hb d_R_entriesFor_154 (lv_at hl 4 rfl) ?_
  refine lv_istore (lv' := [(4, .int x4), (0, .ref h_p0), (2, .ref h_p0_onDisk), (1, .int x1), (3, .int x3), (5, .int x5), (6, .int x6), (7, .int x7), (8, .int x8)]) hx hb d_R_entriesFor_156 hl (by decide) rfl (fun ls hl => ?_)
  refine lv_iinc (k := 8) (v := (x8 + (nI 1))) (lv' := [(8, .int (x8 + (nI 1))), (4, .int x4), (0, .ref h_p0), (2, .ref h_p0_onDisk), (1, .int x1), (3, .int x3), (5, .int x5), (6, .int x6), (7, .int x7)]) hx hb d_R_entriesFor_158 hl rfl rfl (by decide) rfl (fun ls hl => ?_)
  refine lv_goto hx hb d_R_entriesFor_161 rfl ?_
  exact h78 x1 x3 x4 x5 x6 x7 (x8 + (nI 1)) h H locs ls (lv_sub hl [2, 3, 4, 5, 1, 6, 7, 8, 0] rfl) hP hD hS
set_option maxHeartbeats 4000000 in
set_option maxRecDepth 100000 in
theorem w_R_entriesFor_onDisk_131 {p : Program} {l : Launch} {e : Env} {s : State} {m : MethodId} {args : Array Value} {below : List Frame} {meth : Method} {c : Code} {D : va_G} {cI cZ : ClassId} {A : Nat → Prop} (h_p0 h_p0_m h_p0_d h_p0_fresh h_p0_young h_p0_dropped h_p0_released h_p0_owed h_p0_counted h_p0_inMemory h_p0_onDisk h_p0_thn : Nat) (F : Nat) (mem : (Nat → Int32)) (dsk : (Nat → Int32)) (fresh : (Nat → Int32)) (young : (Nat → Int32)) (dropped : (Nat → Int32)) (released : (Nat → Int32)) (owed : (Nat → Int32)) (counted : (Nat → Int32)) (inMemory : (Nat → Int32)) (onDisk : (Nat → Int32)) (thn : (Nat → Int32)) (moved : Int32) (r : Int32) (k6 : Int32 → Int32 → Int32 → Int32 → Option (Int32)) (k78 : Int32 → Int32 → Int32 → Int32 → Int32 → Int32 → Int32 → Option (Int32)) (cx : cx_ok p s m args meth c b_R_entriesFor 10 o_R_entriesFor "OrderedVolumeModel" (some .int) D cI cZ A) (h6 : (∀ (x1 : Int32) (x3 : Int32) (x4 : Int32) (x5 : Int32), k6 x1 x3 x4 x5 = some r → wk_G p l e rm_R_entriesFor s m args below meth c (sc_Qi below args s D cI cZ A (w_R cI cZ h_p0 h_p0_m h_p0_d h_p0_fresh h_p0_young h_p0_dropped h_p0_released h_p0_owed h_p0_counted h_p0_inMemory h_p0_onDisk h_p0_thn mem dsk fresh young dropped released owed counted inMemory onDisk thn moved) r) D A 10 6 [] [(0, .ref h_p0), (2, .ref h_p0_onDisk), (1, .int x1), (3, .int x3), (4, .int x4), (5, .int x5)] (w_R cI cZ h_p0 h_p0_m h_p0_d h_p0_fresh h_p0_young h_p0_dropped h_p0_released h_p0_owed h_p0_counted h_p0_inMemory h_p0_onDisk h_p0_thn mem dsk fresh young dropped released owed counted inMemory onDisk thn moved))) (h78 : (∀ (x1 : Int32) (x3 : Int32) (x4 : Int32) (x5 : Int32) (x6 : Int32) (x7 : Int32) (x8 : Int32), k78 x1 x3 x4 x5 x6 x7 x8 = some r → wk_G p l e rm_R_entriesFor s m args below meth c (sc_Qi below args s D cI cZ A (w_R cI cZ h_p0 h_p0_m h_p0_d h_p0_fresh h_p0_young h_p0_dropped h_p0_released h_p0_owed h_p0_counted h_p0_inMemory h_p0_onDisk h_p0_thn mem dsk fresh young dropped released owed counted inMemory onDisk thn moved) r) D A 10 78 [] [(0, .ref h_p0), (2, .ref h_p0_onDisk), (1, .int x1), (3, .int x3), (4, .int x4), (5, .int x5), (6, .int x6), (7, .int x7), (8, .int x8)] (w_R cI cZ h_p0 h_p0_m h_p0_d h_p0_fresh h_p0_young h_p0_dropped h_p0_released h_p0_owed h_p0_counted h_p0_inMemory h_p0_onDisk h_p0_thn mem dsk fresh young dropped released owed counted inMemory onDisk thn moved))) : ∀ (x1 : Int32) (x3 : Int32) (x4 : Int32) (x5 : Int32) (x6 : Int32) (x7 : Int32) (x8 : Int32) (t0 : Int32), s_R_entriesFor_onDisk_131 F mem dsk fresh onDisk k6 k78 x1 x3 x4 x5 x6 x7 x8 t0 = some r → wk_G p l e rm_R_entriesFor s m args below meth c (sc_Qi below args s D cI cZ A (w_R cI cZ h_p0 h_p0_m h_p0_d h_p0_fresh h_p0_young h_p0_dropped h_p0_released h_p0_owed h_p0_counted h_p0_inMemory h_p0_onDisk h_p0_thn mem dsk fresh young dropped released owed counted inMemory onDisk thn moved) r) D A 10 131 [.int t0] [(0, .ref h_p0), (2, .ref h_p0_onDisk), (1, .int x1), (3, .int x3), (4, .int x4), (5, .int x5), (6, .int x6), (7, .int x7), (8, .int x8)] (w_R cI cZ h_p0 h_p0_m h_p0_d h_p0_fresh h_p0_young h_p0_dropped h_p0_released h_p0_owed h_p0_counted h_p0_inMemory h_p0_onDisk h_p0_thn mem dsk fresh young dropped released owed counted inMemory onDisk thn moved) := by
  obtain ⟨cf, hr, hlk, hK, hN, hA⟩ := cx
  have hx := cf.1
  have hb := cf.2.1
  have hown := cf.2.2.2.1
  have ht : ∀ w ∈ wA, w.before args s = true := fun w h => cf.2.2.2.2 w (List.mem_cons_of_mem _ h)
  intro x1 x3 x4 x5 x6 x7 x8 t0 h H locs ls hl hP hD hS
  unfold s_R_entriesFor_onDisk_131 at h
  refine lv_istore (lv' := [(9, .int t0), (0, .ref h_p0), (2, .ref h_p0_onDisk), (1, .int x1), (3, .int x3), (4, .int x4), (5, .int x5), (6, .int x6), (7, .int x7), (8, .int x8)]) hx hb d_R_entriesFor_131 hl (by decide) rfl (fun ls hl => ?_)
  refine lv_iload hx hb d_R_entriesFor_133 (lv_at hl 0 rfl) ?_
  refine lv_if_eq hx hb d_R_entriesFor_135 rfl (fun hc => ?_) (fun hc => ?_)
  · rw [if_pos hc] at h
    exact w_R_entriesFor_onDisk_154 h_p0 h_p0_m h_p0_d h_p0_fresh h_p0_young h_p0_dropped h_p0_released h_p0_owed h_p0_counted h_p0_inMemory h_p0_onDisk h_p0_thn F mem dsk fresh young dropped released owed counted inMemory onDisk thn moved r _ _ ⟨cf, hr, hlk, hK, hN, hA⟩ h6 h78 x1 x3 x4 x5 x6 x7 x8 h H locs ls (lv_sub hl [1, 2, 3, 4, 5, 6, 7, 8, 9] rfl) hP hD hS
  · rw [if_neg hc] at h
    refine lv_iload hx hb d_R_entriesFor_138 (lv_at hl 0 rfl) ?_
    refine lv_bipush (v := (nI 32)) hx hb d_R_entriesFor_140 (by decide) ?_
    refine lv_irem hx hb d_R_entriesFor_142 (by decide) ?_
    refine lv_iload_n hx hb d_R_entriesFor_143 rfl (lv_at hl 4 rfl) ?_
    refine lv_icmp_ne hx hb d_R_entriesFor_144 rfl (fun hc => ?_) (fun hc => ?_)
    · rw [if_neg hc] at h
      exact w_R_entriesFor_onDisk_154 h_p0 h_p0_m h_p0_d h_p0_fresh h_p0_young h_p0_dropped h_p0_released h_p0_owed h_p0_counted h_p0_inMemory h_p0_onDisk h_p0_thn F mem dsk fresh young dropped released owed counted inMemory onDisk thn moved r _ _ ⟨cf, hr, hlk, hK, hN, hA⟩ h6 h78 x1 x3 x4 x5 x6 x7 x8 h H locs ls (lv_sub hl [1, 2, 3, 4, 5, 6, 7, 8, 9] rfl) hP hD hS
    · rw [if_pos hc] at h
      refine lv_iload hx hb d_R_entriesFor_147 (lv_at hl 5 rfl) ?_
      refine lv_iconst (v := (nI 1)) hx hb d_R_entriesFor_149 (by decide) ?_
      refine lv_iadd hx hb d_R_entriesFor_150 ?_
      refine lv_goto hx hb d_R_entriesFor_151 rfl ?_
      refine lv_istore (lv' := [(4, .int (x4 + (nI 1))), (9, .int t0), (0, .ref h_p0), (2, .ref h_p0_onDisk), (1, .int x1), (3, .int x3), (5, .int x5), (6, .int x6), (7, .int x7), (8, .int x8)]) hx hb d_R_entriesFor_156 hl (by decide) rfl (fun ls hl => ?_)
      refine lv_iinc (k := 9) (v := (x8 + (nI 1))) (lv' := [(8, .int (x8 + (nI 1))), (4, .int (x4 + (nI 1))), (9, .int t0), (0, .ref h_p0), (2, .ref h_p0_onDisk), (1, .int x1), (3, .int x3), (5, .int x5), (6, .int x6), (7, .int x7)]) hx hb d_R_entriesFor_158 hl rfl rfl (by decide) rfl (fun ls hl => ?_)
      refine lv_goto hx hb d_R_entriesFor_161 rfl ?_
      exact h78 x1 x3 (x4 + (nI 1)) x5 x6 x7 (x8 + (nI 1)) h H locs ls (lv_sub hl [3, 4, 5, 6, 1, 7, 8, 9, 0] rfl) hP hD hS
set_option maxHeartbeats 4000000 in
set_option maxRecDepth 100000 in
theorem w_R_entriesFor_onDisk_78 {p : Program} {l : Launch} {e : Env} {s : State} {m : MethodId} {args : Array Value} {below : List Frame} {meth : Method} {c : Code} {D : va_G} {cI cZ : ClassId} {A : Nat → Prop} (h_p0 h_p0_m h_p0_d h_p0_fresh h_p0_young h_p0_dropped h_p0_released h_p0_owed h_p0_counted h_p0_inMemory h_p0_onDisk h_p0_thn : Nat) (F : Nat) (mem : (Nat → Int32)) (dsk : (Nat → Int32)) (fresh : (Nat → Int32)) (young : (Nat → Int32)) (dropped : (Nat → Int32)) (released : (Nat → Int32)) (owed : (Nat → Int32)) (counted : (Nat → Int32)) (inMemory : (Nat → Int32)) (onDisk : (Nat → Int32)) (thn : (Nat → Int32)) (moved : Int32) (r : Int32) (k6 : Int32 → Int32 → Int32 → Int32 → Option (Int32)) (cx : cx_ok p s m args meth c b_R_entriesFor 10 o_R_entriesFor "OrderedVolumeModel" (some .int) D cI cZ A) (h6 : (∀ (x1 : Int32) (x3 : Int32) (x4 : Int32) (x5 : Int32), k6 x1 x3 x4 x5 = some r → wk_G p l e rm_R_entriesFor s m args below meth c (sc_Qi below args s D cI cZ A (w_R cI cZ h_p0 h_p0_m h_p0_d h_p0_fresh h_p0_young h_p0_dropped h_p0_released h_p0_owed h_p0_counted h_p0_inMemory h_p0_onDisk h_p0_thn mem dsk fresh young dropped released owed counted inMemory onDisk thn moved) r) D A 10 6 [] [(0, .ref h_p0), (2, .ref h_p0_onDisk), (1, .int x1), (3, .int x3), (4, .int x4), (5, .int x5)] (w_R cI cZ h_p0 h_p0_m h_p0_d h_p0_fresh h_p0_young h_p0_dropped h_p0_released h_p0_owed h_p0_counted h_p0_inMemory h_p0_onDisk h_p0_thn mem dsk fresh young dropped released owed counted inMemory onDisk thn moved))) : ∀ (n : Nat) (x1 : Int32) (x3 : Int32) (x4 : Int32) (x5 : Int32) (x6 : Int32) (x7 : Int32) (x8 : Int32), s_R_entriesFor_onDisk_78 F mem dsk fresh onDisk k6 n x1 x3 x4 x5 x6 x7 x8 = some r → wk_G p l e rm_R_entriesFor s m args below meth c (sc_Qi below args s D cI cZ A (w_R cI cZ h_p0 h_p0_m h_p0_d h_p0_fresh h_p0_young h_p0_dropped h_p0_released h_p0_owed h_p0_counted h_p0_inMemory h_p0_onDisk h_p0_thn mem dsk fresh young dropped released owed counted inMemory onDisk thn moved) r) D A 10 78 [] [(0, .ref h_p0), (2, .ref h_p0_onDisk), (1, .int x1), (3, .int x3), (4, .int x4), (5, .int x5), (6, .int x6), (7, .int x7), (8, .int x8)] (w_R cI cZ h_p0 h_p0_m h_p0_d h_p0_fresh h_p0_young h_p0_dropped h_p0_released h_p0_owed h_p0_counted h_p0_inMemory h_p0_onDisk h_p0_thn mem dsk fresh young dropped released owed counted inMemory onDisk thn moved) := by
  obtain ⟨cf, hr, hlk, hK, hN, hA⟩ := cx
  have hx := cf.1
  have hb := cf.2.1
  have hown := cf.2.2.2.1
  have ht : ∀ w ∈ wA, w.before args s = true := fun w h => cf.2.2.2.2 w (List.mem_cons_of_mem _ h)
  intro n
  induction n with
  | zero => intro x1 x3 x4 x5 x6 x7 x8 h; cases (show (none : Option (Int32)) = some _ from h)
  | succ n ih =>
    intro x1 x3 x4 x5 x6 x7 x8 h H locs ls hl hP hD hS
    unfold s_R_entriesFor_onDisk_78 at h
    refine lv_iload hx hb d_R_entriesFor_78 (lv_at hl 8 rfl) ?_
    refine lv_bipush (v := (nI 8)) hx hb d_R_entriesFor_80 (by decide) ?_
    refine lv_icmp_ge hx hb d_R_entriesFor_82 rfl (fun hc => ?_) (fun hc => ?_)
    · rw [if_pos hc] at h
      refine lv_iinc (k := 5) (v := (x5 + (nI 1))) (lv' := [(5, .int (x5 + (nI 1))), (0, .ref h_p0), (2, .ref h_p0_onDisk), (1, .int x1), (3, .int x3), (4, .int x4), (6, .int x6), (7, .int x7), (8, .int x8)]) hx hb d_R_entriesFor_164 hl rfl rfl (by decide) rfl (fun ls hl => ?_)
      refine lv_goto hx hb d_R_entriesFor_167 rfl ?_
      exact h6 x1 x3 x4 (x5 + (nI 1)) h H locs ls (lv_sub hl [1, 2, 3, 4, 5, 0] rfl) hP hD hS
    · rw [if_neg hc] at h
      refine lv_aload_n hx hb d_R_entriesFor_85 rfl (lv_at hl 1 rfl) ?_
      refine lv_iload hx hb d_R_entriesFor_86 (lv_at hl 5 rfl) ?_
      obtain ⟨hin, h⟩ := gr_some h
      refine va_zald hx hb hK hP 10 1 rfl rfl hin d_R_entriesFor_88 ?_
      generalize onDisk x5.toNatClampNeg = v88 at h ⊢
      refine lv_if_eq hx hb d_R_entriesFor_89 rfl (fun hc => ?_) (fun hc => ?_)
      · rw [if_pos hc] at h
        refine lv_iinc (k := 5) (v := (x5 + (nI 1))) (lv' := [(5, .int (x5 + (nI 1))), (0, .ref h_p0), (2, .ref h_p0_onDisk), (1, .int x1), (3, .int x3), (4, .int x4), (6, .int x6), (7, .int x7), (8, .int x8)]) hx hb d_R_entriesFor_164 hl rfl rfl (by decide) rfl (fun ls hl => ?_)
        refine lv_goto hx hb d_R_entriesFor_167 rfl ?_
        exact h6 x1 x3 x4 (x5 + (nI 1)) h H locs ls (lv_sub hl [1, 2, 3, 4, 5, 0] rfl) hP hD hS
      · rw [if_neg hc] at h
        refine lv_iload hx hb d_R_entriesFor_92 (lv_at hl 6 rfl) ?_
        refine lv_iconst (v := (nI 2)) hx hb d_R_entriesFor_94 (by decide) ?_
        refine lv_icmp_ne hx hb d_R_entriesFor_95 rfl (fun hc => ?_) (fun hc => ?_)
        · rw [if_neg hc] at h
          refine lv_iinc (k := 5) (v := (x5 + (nI 1))) (lv' := [(5, .int (x5 + (nI 1))), (0, .ref h_p0), (2, .ref h_p0_onDisk), (1, .int x1), (3, .int x3), (4, .int x4), (6, .int x6), (7, .int x7), (8, .int x8)]) hx hb d_R_entriesFor_164 hl rfl rfl (by decide) rfl (fun ls hl => ?_)
          refine lv_goto hx hb d_R_entriesFor_167 rfl ?_
          exact h6 x1 x3 x4 (x5 + (nI 1)) h H locs ls (lv_sub hl [1, 2, 3, 4, 5, 0] rfl) hP hD hS
        · rw [if_pos hc] at h
          refine lv_iload hx hb d_R_entriesFor_98 (lv_at hl 7 rfl) ?_
          refine lv_if_eq hx hb d_R_entriesFor_100 rfl (fun hc => ?_) (fun hc => ?_)
          · rw [if_pos hc] at h
            refine lv_iinc (k := 5) (v := (x5 + (nI 1))) (lv' := [(5, .int (x5 + (nI 1))), (0, .ref h_p0), (2, .ref h_p0_onDisk), (1, .int x1), (3, .int x3), (4, .int x4), (6, .int x6), (7, .int x7), (8, .int x8)]) hx hb d_R_entriesFor_164 hl rfl rfl (by decide) rfl (fun ls hl => ?_)
            refine lv_goto hx hb d_R_entriesFor_167 rfl ?_
            exact h6 x1 x3 x4 (x5 + (nI 1)) h H locs ls (lv_sub hl [1, 2, 3, 4, 5, 0] rfl) hP hD hS
          · rw [if_neg hc] at h
            refine lv_iload_n hx hb d_R_entriesFor_103 rfl (lv_at hl 2 rfl) ?_
            refine lv_if_eq hx hb d_R_entriesFor_104 rfl (fun hc => ?_) (fun hc => ?_)
            · rw [if_pos hc] at h
              refine lv_aload_n hx hb d_R_entriesFor_118 rfl (lv_at hl 0 rfl) ?_
              refine va_get (D := D) (ci := 2) (v := .ref h_p0_m) (C := R_R) (T := F_R) (N := 12) hx hb ht in_R hown hK hP 0 rfl rfl 0 (by decide) (ht _ f_R_7) (fun _ h9 => h9) rfl d_R_entriesFor_119 ?_
              refine lv_bipush (v := (nI 30)) hx hb d_R_entriesFor_122 (by decide) ?_
              refine lv_iload hx hb d_R_entriesFor_124 (lv_at hl 7 rfl) ?_
              refine lv_imul hx hb d_R_entriesFor_126 ?_
              refine lv_iload hx hb d_R_entriesFor_127 (lv_at hl 8 rfl) ?_
              refine lv_iadd hx hb d_R_entriesFor_129 ?_
              obtain ⟨hin, h⟩ := gr_some h
              refine va_iald hx hb hK hP 1 0 rfl rfl hin d_R_entriesFor_130 ?_
              generalize mem (((nI 30) * x7) + x8).toNatClampNeg = v130 at h ⊢
              exact w_R_entriesFor_onDisk_131 h_p0 h_p0_m h_p0_d h_p0_fresh h_p0_young h_p0_dropped h_p0_released h_p0_owed h_p0_counted h_p0_inMemory h_p0_onDisk h_p0_thn F mem dsk fresh young dropped released owed counted inMemory onDisk thn moved r _ _ ⟨cf, hr, hlk, hK, hN, hA⟩ h6 ih x1 x3 x4 x5 x6 x7 x8 v130 h H locs ls (lv_sub hl [0, 1, 2, 3, 4, 5, 6, 7, 8] rfl) hP hD hS
            · rw [if_neg hc] at h
              refine lv_aload_n hx hb d_R_entriesFor_107 rfl (lv_at hl 0 rfl) ?_
              refine lv_iload hx hb d_R_entriesFor_108 (lv_at hl 7 rfl) ?_
              refine lv_iload hx hb d_R_entriesFor_110 (lv_at hl 8 rfl) ?_
              obtain ⟨r112, h112, h⟩ := bd_some h
              refine wk_Vi (As := [.int x7, .int x8]) (rest := []) (wc := (w_R cI cZ h_p0 h_p0_m h_p0_d h_p0_fresh h_p0_young h_p0_dropped h_p0_released h_p0_owed h_p0_counted h_p0_inMemory h_p0_onDisk h_p0_thn mem dsk fresh young dropped released owed counted inMemory onDisk thn moved)) (w1 := (w_R cI cZ h_p0 h_p0_m h_p0_d h_p0_fresh h_p0_young h_p0_dropped h_p0_released h_p0_owed h_p0_counted h_p0_inMemory h_p0_onDisk h_p0_thn mem dsk fresh young dropped released owed counted inMemory onDisk thn moved)) (wr := []) (wz := (w_R cI cZ h_p0 h_p0_m h_p0_d h_p0_fresh h_p0_young h_p0_dropped h_p0_released h_p0_owed h_p0_counted h_p0_inMemory h_p0_onDisk h_p0_thn mem dsk fresh young dropped released owed counted inMemory onDisk thn moved)) cf hK hN hA (c_R_seen l D cI cZ h_p0 h_p0_m h_p0_d h_p0_fresh h_p0_young h_p0_dropped h_p0_released h_p0_owed h_p0_counted h_p0_inMemory h_p0_onDisk h_p0_thn mem dsk fresh young dropped released owed counted inMemory onDisk thn moved x7 x8 r112 h112) k_R_66 ⟨rfl, rfl, by decide, by decide⟩ 2 rfl rfl rfl hl hP hD hS [0, 1, 2, 3, 4, 5, 6, 7, 8, 9, 10, 11] [] [0, 1, 2, 3, 4, 5, 6, 7, 8, 9, 10, 11] rfl rfl rfl (by decide) rfl rfl rfl rfl rfl (Nat.le_of_ble_eq_true rfl) rfl d_R_entriesFor_112 (fun H locs hP hD hS => ?_)
              refine lv_goto hx hb d_R_entriesFor_115 rfl ?_
              exact w_R_entriesFor_onDisk_131 h_p0 h_p0_m h_p0_d h_p0_fresh h_p0_young h_p0_dropped h_p0_released h_p0_owed h_p0_counted h_p0_inMemory h_p0_onDisk h_p0_thn F mem dsk fresh young dropped released owed counted inMemory onDisk thn moved r _ _ ⟨cf, hr, hlk, hK, hN, hA⟩ h6 ih x1 x3 x4 x5 x6 x7 x8 r112 h H locs ls (lv_sub hl [0, 1, 2, 3, 4, 5, 6, 7, 8] rfl) hP hD hS
set_option maxHeartbeats 4000000 in
set_option maxRecDepth 100000 in
theorem w_R_entriesFor_onDisk_73 {p : Program} {l : Launch} {e : Env} {s : State} {m : MethodId} {args : Array Value} {below : List Frame} {meth : Method} {c : Code} {D : va_G} {cI cZ : ClassId} {A : Nat → Prop} (h_p0 h_p0_m h_p0_d h_p0_fresh h_p0_young h_p0_dropped h_p0_released h_p0_owed h_p0_counted h_p0_inMemory h_p0_onDisk h_p0_thn : Nat) (F : Nat) (mem : (Nat → Int32)) (dsk : (Nat → Int32)) (fresh : (Nat → Int32)) (young : (Nat → Int32)) (dropped : (Nat → Int32)) (released : (Nat → Int32)) (owed : (Nat → Int32)) (counted : (Nat → Int32)) (inMemory : (Nat → Int32)) (onDisk : (Nat → Int32)) (thn : (Nat → Int32)) (moved : Int32) (r : Int32) (k6 : Int32 → Int32 → Int32 → Int32 → Option (Int32)) (cx : cx_ok p s m args meth c b_R_entriesFor 10 o_R_entriesFor "OrderedVolumeModel" (some .int) D cI cZ A) (h6 : (∀ (x1 : Int32) (x3 : Int32) (x4 : Int32) (x5 : Int32), k6 x1 x3 x4 x5 = some r → wk_G p l e rm_R_entriesFor s m args below meth c (sc_Qi below args s D cI cZ A (w_R cI cZ h_p0 h_p0_m h_p0_d h_p0_fresh h_p0_young h_p0_dropped h_p0_released h_p0_owed h_p0_counted h_p0_inMemory h_p0_onDisk h_p0_thn mem dsk fresh young dropped released owed counted inMemory onDisk thn moved) r) D A 10 6 [] [(0, .ref h_p0), (2, .ref h_p0_onDisk), (1, .int x1), (3, .int x3), (4, .int x4), (5, .int x5)] (w_R cI cZ h_p0 h_p0_m h_p0_d h_p0_fresh h_p0_young h_p0_dropped h_p0_released h_p0_owed h_p0_counted h_p0_inMemory h_p0_onDisk h_p0_thn mem dsk fresh young dropped released owed counted inMemory onDisk thn moved))) : ∀ (x1 : Int32) (x3 : Int32) (x4 : Int32) (x5 : Int32) (x6 : Int32) (t0 : Int32), s_R_entriesFor_onDisk_73 F mem dsk fresh onDisk k6 x1 x3 x4 x5 x6 t0 = some r → wk_G p l e rm_R_entriesFor s m args below meth c (sc_Qi below args s D cI cZ A (w_R cI cZ h_p0 h_p0_m h_p0_d h_p0_fresh h_p0_young h_p0_dropped h_p0_released h_p0_owed h_p0_counted h_p0_inMemory h_p0_onDisk h_p0_thn mem dsk fresh young dropped released owed counted inMemory onDisk thn moved) r) D A 10 73 [.int t0] [(0, .ref h_p0), (2, .ref h_p0_onDisk), (1, .int x1), (3, .int x3), (4, .int x4), (5, .int x5), (6, .int x6)] (w_R cI cZ h_p0 h_p0_m h_p0_d h_p0_fresh h_p0_young h_p0_dropped h_p0_released h_p0_owed h_p0_counted h_p0_inMemory h_p0_onDisk h_p0_thn mem dsk fresh young dropped released owed counted inMemory onDisk thn moved) := by
  obtain ⟨cf, hr, hlk, hK, hN, hA⟩ := cx
  have hx := cf.1
  have hb := cf.2.1
  have hown := cf.2.2.2.1
  have ht : ∀ w ∈ wA, w.before args s = true := fun w h => cf.2.2.2.2 w (List.mem_cons_of_mem _ h)
  intro x1 x3 x4 x5 x6 t0 h H locs ls hl hP hD hS
  unfold s_R_entriesFor_onDisk_73 at h
  refine lv_istore (lv' := [(7, .int t0), (0, .ref h_p0), (2, .ref h_p0_onDisk), (1, .int x1), (3, .int x3), (4, .int x4), (5, .int x5), (6, .int x6)]) hx hb d_R_entriesFor_73 hl (by decide) rfl (fun ls hl => ?_)
  refine lv_iconst (v := (nI 0)) hx hb d_R_entriesFor_75 (by decide) ?_
  refine lv_istore (lv' := [(8, .int (nI 0)), (7, .int t0), (0, .ref h_p0), (2, .ref h_p0_onDisk), (1, .int x1), (3, .int x3), (4, .int x4), (5, .int x5), (6, .int x6)]) hx hb d_R_entriesFor_76 hl (by decide) rfl (fun ls hl => ?_)
  exact w_R_entriesFor_onDisk_78 h_p0 h_p0_m h_p0_d h_p0_fresh h_p0_young h_p0_dropped h_p0_released h_p0_owed h_p0_counted h_p0_inMemory h_p0_onDisk h_p0_thn F mem dsk fresh young dropped released owed counted inMemory onDisk thn moved r _ ⟨cf, hr, hlk, hK, hN, hA⟩ h6 F x1 x3 x4 x5 x6 t0 (nI 0) h H locs ls (lv_sub hl [2, 3, 4, 5, 6, 7, 8, 1, 0] rfl) hP hD hS
set_option maxHeartbeats 4000000 in
set_option maxRecDepth 100000 in
theorem w_R_entriesFor_onDisk_42 {p : Program} {l : Launch} {e : Env} {s : State} {m : MethodId} {args : Array Value} {below : List Frame} {meth : Method} {c : Code} {D : va_G} {cI cZ : ClassId} {A : Nat → Prop} (h_p0 h_p0_m h_p0_d h_p0_fresh h_p0_young h_p0_dropped h_p0_released h_p0_owed h_p0_counted h_p0_inMemory h_p0_onDisk h_p0_thn : Nat) (F : Nat) (mem : (Nat → Int32)) (dsk : (Nat → Int32)) (fresh : (Nat → Int32)) (young : (Nat → Int32)) (dropped : (Nat → Int32)) (released : (Nat → Int32)) (owed : (Nat → Int32)) (counted : (Nat → Int32)) (inMemory : (Nat → Int32)) (onDisk : (Nat → Int32)) (thn : (Nat → Int32)) (moved : Int32) (r : Int32) (k6 : Int32 → Int32 → Int32 → Int32 → Option (Int32)) (cx : cx_ok p s m args meth c b_R_entriesFor 10 o_R_entriesFor "OrderedVolumeModel" (some .int) D cI cZ A) (h6 : (∀ (x1 : Int32) (x3 : Int32) (x4 : Int32) (x5 : Int32), k6 x1 x3 x4 x5 = some r → wk_G p l e rm_R_entriesFor s m args below meth c (sc_Qi below args s D cI cZ A (w_R cI cZ h_p0 h_p0_m h_p0_d h_p0_fresh h_p0_young h_p0_dropped h_p0_released h_p0_owed h_p0_counted h_p0_inMemory h_p0_onDisk h_p0_thn mem dsk fresh young dropped released owed counted inMemory onDisk thn moved) r) D A 10 6 [] [(0, .ref h_p0), (2, .ref h_p0_onDisk), (1, .int x1), (3, .int x3), (4, .int x4), (5, .int x5)] (w_R cI cZ h_p0 h_p0_m h_p0_d h_p0_fresh h_p0_young h_p0_dropped h_p0_released h_p0_owed h_p0_counted h_p0_inMemory h_p0_onDisk h_p0_thn mem dsk fresh young dropped released owed counted inMemory onDisk thn moved))) : ∀ (x1 : Int32) (x3 : Int32) (x4 : Int32) (x5 : Int32) (t0 : Int32), s_R_entriesFor_onDisk_42 F mem dsk fresh onDisk k6 x1 x3 x4 x5 t0 = some r → wk_G p l e rm_R_entriesFor s m args below meth c (sc_Qi below args s D cI cZ A (w_R cI cZ h_p0 h_p0_m h_p0_d h_p0_fresh h_p0_young h_p0_dropped h_p0_released h_p0_owed h_p0_counted h_p0_inMemory h_p0_onDisk h_p0_thn mem dsk fresh young dropped released owed counted inMemory onDisk thn moved) r) D A 10 42 [.int t0] [(0, .ref h_p0), (2, .ref h_p0_onDisk), (1, .int x1), (3, .int x3), (4, .int x4), (5, .int x5)] (w_R cI cZ h_p0 h_p0_m h_p0_d h_p0_fresh h_p0_young h_p0_dropped h_p0_released h_p0_owed h_p0_counted h_p0_inMemory h_p0_onDisk h_p0_thn mem dsk fresh young dropped released owed counted inMemory onDisk thn moved) := by
  obtain ⟨cf, hr, hlk, hK, hN, hA⟩ := cx
  have hx := cf.1
  have hb := cf.2.1
  have hown := cf.2.2.2.1
  have ht : ∀ w ∈ wA, w.before args s = true := fun w h => cf.2.2.2.2 w (List.mem_cons_of_mem _ h)
  intro x1 x3 x4 x5 t0 h H locs ls hl hP hD hS
  unfold s_R_entriesFor_onDisk_42 at h
  refine lv_istore (lv' := [(6, .int t0), (0, .ref h_p0), (2, .ref h_p0_onDisk), (1, .int x1), (3, .int x3), (4, .int x4), (5, .int x5)]) hx hb d_R_entriesFor_42 hl (by decide) rfl (fun ls hl => ?_)
  refine lv_iload_n hx hb d_R_entriesFor_44 rfl (lv_at hl 3 rfl) ?_
  refine lv_if_eq hx hb d_R_entriesFor_45 rfl (fun hc => ?_) (fun hc => ?_)
  · rw [if_pos hc] at h
    refine lv_aload_n hx hb d_R_entriesFor_62 rfl (lv_at hl 1 rfl) ?_
    refine va_get (D := D) (ci := 2) (v := .ref h_p0_m) (C := R_R) (T := F_R) (N := 12) hx hb ht in_R hown hK hP 0 rfl rfl 0 (by decide) (ht _ f_R_7) (fun _ h9 => h9) rfl d_R_entriesFor_63 ?_
    refine lv_iload hx hb d_R_entriesFor_66 (lv_at hl 6 rfl) ?_
    refine lv_iconst (v := (nI 2)) hx hb d_R_entriesFor_68 (by decide) ?_
    obtain ⟨r69, h69, h⟩ := bd_some h
    refine wk_Si (As := [.int x5, .int (nI 2)]) (rest := [.ref h_p0_m]) (wc := []) (w1 := []) (wr := [(h_p0, .inr (2, [.ref h_p0_m, .ref h_p0_d, .ref h_p0_fresh, .ref h_p0_young, .ref h_p0_dropped, .ref h_p0_released, .ref h_p0_owed, .ref h_p0_counted, .ref h_p0_inMemory, .ref h_p0_onDisk, .ref h_p0_thn, .int moved])), (h_p0_m, .inl (cI, 1080, .inl mem)), (h_p0_d, .inl (cI, 1080, .inl dsk)), (h_p0_fresh, .inl (cZ, 36, .inl fresh)), (h_p0_young, .inl (cZ, 288, .inl young)), (h_p0_dropped, .inl (cI, 36, .inl dropped)), (h_p0_released, .inl (cZ, 18, .inl released)), (h_p0_owed, .inl (cI, 18, .inl owed)), (h_p0_counted, .inl (cI, 18, .inl counted)), (h_p0_inMemory, .inl (cZ, 18, .inl inMemory)), (h_p0_onDisk, .inl (cZ, 18, .inl onDisk)), (h_p0_thn, .inl (cZ, 18, .inl thn))]) (wz := (w_R cI cZ h_p0 h_p0_m h_p0_d h_p0_fresh h_p0_young h_p0_dropped h_p0_released h_p0_owed h_p0_counted h_p0_inMemory h_p0_onDisk h_p0_thn mem dsk fresh young dropped released owed counted inMemory onDisk thn moved)) cf hK hN hA (c_R_at l D cI cZ 0 x5 (nI 2) r69 h69) k_R_44 ⟨rfl, rfl, by decide, by decide⟩ hl hP hD hS [] [0, 1, 2, 3, 4, 5, 6, 7, 8, 9, 10, 11] [0, 1, 2, 3, 4, 5, 6, 7, 8, 9, 10, 11] rfl rfl rfl (by decide) rfl rfl rfl rfl rfl (Nat.le_of_ble_eq_true rfl) rfl d_R_entriesFor_69 (fun H locs hP hD hS => ?_)
    obtain ⟨hin, h⟩ := gr_some h
    refine va_iald hx hb hK hP 1 0 rfl rfl hin d_R_entriesFor_72 ?_
    generalize mem r69.toNatClampNeg = v72 at h ⊢
    exact w_R_entriesFor_onDisk_73 h_p0 h_p0_m h_p0_d h_p0_fresh h_p0_young h_p0_dropped h_p0_released h_p0_owed h_p0_counted h_p0_inMemory h_p0_onDisk h_p0_thn F mem dsk fresh young dropped released owed counted inMemory onDisk thn moved r _ ⟨cf, hr, hlk, hK, hN, hA⟩ h6 x1 x3 x4 x5 t0 v72 h H locs ls (lv_sub hl [1, 2, 3, 4, 5, 6, 0] rfl) hP hD hS
  · rw [if_neg hc] at h
    refine lv_aload_n hx hb d_R_entriesFor_48 rfl (lv_at hl 1 rfl) ?_
    refine va_get (D := D) (ci := 2) (v := .ref h_p0_d) (C := R_R) (T := F_R) (N := 12) hx hb ht in_R hown hK hP 0 rfl rfl 1 (by decide) (ht _ f_R_13) (fun _ h9 => h9) rfl d_R_entriesFor_49 ?_
    refine lv_iload hx hb d_R_entriesFor_52 (lv_at hl 6 rfl) ?_
    refine lv_iconst (v := (nI 2)) hx hb d_R_entriesFor_54 (by decide) ?_
    obtain ⟨r55, h55, h⟩ := bd_some h
    refine wk_Si (As := [.int x5, .int (nI 2)]) (rest := [.ref h_p0_d]) (wc := []) (w1 := []) (wr := [(h_p0, .inr (2, [.ref h_p0_m, .ref h_p0_d, .ref h_p0_fresh, .ref h_p0_young, .ref h_p0_dropped, .ref h_p0_released, .ref h_p0_owed, .ref h_p0_counted, .ref h_p0_inMemory, .ref h_p0_onDisk, .ref h_p0_thn, .int moved])), (h_p0_m, .inl (cI, 1080, .inl mem)), (h_p0_d, .inl (cI, 1080, .inl dsk)), (h_p0_fresh, .inl (cZ, 36, .inl fresh)), (h_p0_young, .inl (cZ, 288, .inl young)), (h_p0_dropped, .inl (cI, 36, .inl dropped)), (h_p0_released, .inl (cZ, 18, .inl released)), (h_p0_owed, .inl (cI, 18, .inl owed)), (h_p0_counted, .inl (cI, 18, .inl counted)), (h_p0_inMemory, .inl (cZ, 18, .inl inMemory)), (h_p0_onDisk, .inl (cZ, 18, .inl onDisk)), (h_p0_thn, .inl (cZ, 18, .inl thn))]) (wz := (w_R cI cZ h_p0 h_p0_m h_p0_d h_p0_fresh h_p0_young h_p0_dropped h_p0_released h_p0_owed h_p0_counted h_p0_inMemory h_p0_onDisk h_p0_thn mem dsk fresh young dropped released owed counted inMemory onDisk thn moved)) cf hK hN hA (c_R_at l D cI cZ 0 x5 (nI 2) r55 h55) k_R_44 ⟨rfl, rfl, by decide, by decide⟩ hl hP hD hS [] [0, 1, 2, 3, 4, 5, 6, 7, 8, 9, 10, 11] [0, 1, 2, 3, 4, 5, 6, 7, 8, 9, 10, 11] rfl rfl rfl (by decide) rfl rfl rfl rfl rfl (Nat.le_of_ble_eq_true rfl) rfl d_R_entriesFor_55 (fun H locs hP hD hS => ?_)
    obtain ⟨hin, h⟩ := gr_some h
    refine va_iald hx hb hK hP 2 0 rfl rfl hin d_R_entriesFor_58 ?_
    generalize dsk r55.toNatClampNeg = v58 at h ⊢
    refine lv_goto hx hb d_R_entriesFor_59 rfl ?_
    exact w_R_entriesFor_onDisk_73 h_p0 h_p0_m h_p0_d h_p0_fresh h_p0_young h_p0_dropped h_p0_released h_p0_owed h_p0_counted h_p0_inMemory h_p0_onDisk h_p0_thn F mem dsk fresh young dropped released owed counted inMemory onDisk thn moved r _ ⟨cf, hr, hlk, hK, hN, hA⟩ h6 x1 x3 x4 x5 t0 v58 h H locs ls (lv_sub hl [1, 2, 3, 4, 5, 6, 0] rfl) hP hD hS
