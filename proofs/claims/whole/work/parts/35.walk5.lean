set_option maxHeartbeats 4000000 in
set_option maxRecDepth 100000 in
theorem w_R_count_131 {p : Program} {l : Launch} {e : Env} {s : State} {m : MethodId} {args : Array Value} {below : List Frame} {meth : Method} {c : Code} {D : va_G} {cI cZ : ClassId} {A : Nat → Prop} (h_p0 h_p0_m h_p0_d h_p0_fresh h_p0_young h_p0_dropped h_p0_released h_p0_owed h_p0_counted h_p0_inMemory h_p0_onDisk h_p0_thn : Nat) (F : Nat) (dsk : (Nat → Int32)) (fresh : (Nat → Int32)) (young : (Nat → Int32)) (inMemory : (Nat → Int32)) (onDisk : (Nat → Int32)) (thn : (Nat → Int32)) (moved : Int32) (dropped' : (Nat → Int32)) (mem' : (Nat → Int32)) (released' : (Nat → Int32)) (owed' : (Nat → Int32)) (counted' : (Nat → Int32)) (r : Int32) (cx : cx_ok p s m args meth c b_R_count 4 o_R_count "OrderedVolumeModel" (some .boolean) D cI cZ A) : ∀ (n : Nat) (x1 : Int32) (x2 : Int32) (dropped : (Nat → Int32)) (mem : (Nat → Int32)) (released : (Nat → Int32)) (owed : (Nat → Int32)) (counted : (Nat → Int32)), s_R_count_131 F dsk fresh n x1 x2 dropped mem released owed counted = some (r, dropped', mem', released', owed', counted') → wk_G p l e rm_R_count s m args below meth c (sc_Qi below args s D cI cZ A (w_R cI cZ h_p0 h_p0_m h_p0_d h_p0_fresh h_p0_young h_p0_dropped h_p0_released h_p0_owed h_p0_counted h_p0_inMemory h_p0_onDisk h_p0_thn (mem') dsk fresh young (dropped') (released') (owed') (counted') inMemory onDisk thn moved) r) D A 4 131 [] [(0, .ref h_p0), (1, .int x1), (2, .int x2)] (w_R cI cZ h_p0 h_p0_m h_p0_d h_p0_fresh h_p0_young h_p0_dropped h_p0_released h_p0_owed h_p0_counted h_p0_inMemory h_p0_onDisk h_p0_thn mem dsk fresh young dropped released owed counted inMemory onDisk thn moved) := by
  obtain ⟨cf, hr, hlk, hK, hN, hA⟩ := cx
  have hx := cf.1
  have hb := cf.2.1
  have hown := cf.2.2.2.1
  have ht : ∀ w ∈ wA, w.before args s = true := fun w h => cf.2.2.2.2 w (List.mem_cons_of_mem _ h)
  intro n
  induction n with
  | zero => intro x1 x2 dropped mem released owed counted h; cases (show (none : Option (Int32 × (Nat → Int32) × (Nat → Int32) × (Nat → Int32) × (Nat → Int32) × (Nat → Int32))) = some _ from h)
  | succ n ih =>
    intro x1 x2 dropped mem released owed counted h H locs ls hl hP hD hS
    unfold s_R_count_131 at h
    refine lv_iload_n hx hb d_R_count_131 rfl (lv_at hl 2 rfl) ?_
    refine lv_bipush (v := (nI 18)) hx hb d_R_count_132 (by decide) ?_
    refine lv_icmp_ge hx hb d_R_count_134 rfl (fun hc => ?_) (fun hc => ?_)
    · rw [if_pos hc] at h
      refine lv_iload_n hx hb d_R_count_185 rfl (lv_at hl 1 rfl) ?_
      obtain ⟨hz, h⟩ := gz_some h
      cases h
      exact sc_zret cf hr hlk hz hK hP hD hS d_R_count_186
    · rw [if_neg hc] at h
      refine lv_aload_n hx hb d_R_count_137 rfl (lv_at hl 0 rfl) ?_
      refine va_get (D := D) (ci := 2) (v := .ref h_p0_owed) (C := R_R) (T := F_R) (N := 12) hx hb ht in_R hown hK hP 0 rfl rfl 6 (by decide) (ht _ f_R_29) (fun _ h9 => h9) rfl d_R_count_138 ?_
      refine lv_iload_n hx hb d_R_count_141 rfl (lv_at hl 2 rfl) ?_
      obtain ⟨hin, h⟩ := gr_some h
      refine va_iald hx hb hK hP 7 0 rfl rfl hin d_R_count_142 ?_
      generalize owed x2.toNatClampNeg = v142 at h ⊢
      refine lv_istore_n (lv' := [(3, .int v142), (0, .ref h_p0), (1, .int x1), (2, .int x2)]) hx hb d_R_count_143 rfl hl (by decide) rfl (fun ls hl => ?_)
      exact w_R_count_144 h_p0 h_p0_m h_p0_d h_p0_fresh h_p0_young h_p0_dropped h_p0_released h_p0_owed h_p0_counted h_p0_inMemory h_p0_onDisk h_p0_thn F dsk fresh young inMemory onDisk thn moved dropped' mem' released' owed' counted' r _ ⟨cf, hr, hlk, hK, hN, hA⟩ ih F x1 x2 v142 dropped mem released owed counted h H locs ls (lv_sub hl [1, 2, 3, 0] rfl) hP hD hS
set_option maxHeartbeats 4000000 in
set_option maxRecDepth 100000 in
theorem w_R_count_64 {p : Program} {l : Launch} {e : Env} {s : State} {m : MethodId} {args : Array Value} {below : List Frame} {meth : Method} {c : Code} {D : va_G} {cI cZ : ClassId} {A : Nat → Prop} (h_p0 h_p0_m h_p0_d h_p0_fresh h_p0_young h_p0_dropped h_p0_released h_p0_owed h_p0_counted h_p0_inMemory h_p0_onDisk h_p0_thn : Nat) (F : Nat) (dsk : (Nat → Int32)) (fresh : (Nat → Int32)) (young : (Nat → Int32)) (inMemory : (Nat → Int32)) (onDisk : (Nat → Int32)) (thn : (Nat → Int32)) (moved : Int32) (dropped' : (Nat → Int32)) (mem' : (Nat → Int32)) (released' : (Nat → Int32)) (owed' : (Nat → Int32)) (counted' : (Nat → Int32)) (r : Int32) (k23 : Int32 → (Nat → Int32) → (Nat → Int32) → (Nat → Int32) → (Nat → Int32) → (Nat → Int32) → Option (Int32 × (Nat → Int32) × (Nat → Int32) × (Nat → Int32) × (Nat → Int32) × (Nat → Int32))) (cx : cx_ok p s m args meth c b_R_count 4 o_R_count "OrderedVolumeModel" (some .boolean) D cI cZ A) (h23 : (∀ (x1 : Int32) (dropped : (Nat → Int32)) (mem : (Nat → Int32)) (released : (Nat → Int32)) (owed : (Nat → Int32)) (counted : (Nat → Int32)), k23 x1 dropped mem released owed counted = some (r, dropped', mem', released', owed', counted') → wk_G p l e rm_R_count s m args below meth c (sc_Qi below args s D cI cZ A (w_R cI cZ h_p0 h_p0_m h_p0_d h_p0_fresh h_p0_young h_p0_dropped h_p0_released h_p0_owed h_p0_counted h_p0_inMemory h_p0_onDisk h_p0_thn (mem') dsk fresh young (dropped') (released') (owed') (counted') inMemory onDisk thn moved) r) D A 4 23 [] [(0, .ref h_p0), (1, .int x1)] (w_R cI cZ h_p0 h_p0_m h_p0_d h_p0_fresh h_p0_young h_p0_dropped h_p0_released h_p0_owed h_p0_counted h_p0_inMemory h_p0_onDisk h_p0_thn mem dsk fresh young dropped released owed counted inMemory onDisk thn moved))) : ∀ (n : Nat) (x1 : Int32) (x2 : Int32) (x3 : Int32) (dropped : (Nat → Int32)) (mem : (Nat → Int32)) (released : (Nat → Int32)) (owed : (Nat → Int32)) (counted : (Nat → Int32)), s_R_count_64 F dsk fresh k23 n x1 x2 x3 dropped mem released owed counted = some (r, dropped', mem', released', owed', counted') → wk_G p l e rm_R_count s m args below meth c (sc_Qi below args s D cI cZ A (w_R cI cZ h_p0 h_p0_m h_p0_d h_p0_fresh h_p0_young h_p0_dropped h_p0_released h_p0_owed h_p0_counted h_p0_inMemory h_p0_onDisk h_p0_thn (mem') dsk fresh young (dropped') (released') (owed') (counted') inMemory onDisk thn moved) r) D A 4 64 [] [(0, .ref h_p0), (1, .int x1), (2, .int x2), (3, .int x3)] (w_R cI cZ h_p0 h_p0_m h_p0_d h_p0_fresh h_p0_young h_p0_dropped h_p0_released h_p0_owed h_p0_counted h_p0_inMemory h_p0_onDisk h_p0_thn mem dsk fresh young dropped released owed counted inMemory onDisk thn moved) := by
  obtain ⟨cf, hr, hlk, hK, hN, hA⟩ := cx
  have hx := cf.1
  have hb := cf.2.1
  have hown := cf.2.2.2.1
  have ht : ∀ w ∈ wA, w.before args s = true := fun w h => cf.2.2.2.2 w (List.mem_cons_of_mem _ h)
  intro n
  induction n with
  | zero => intro x1 x2 x3 dropped mem released owed counted h; cases (show (none : Option (Int32 × (Nat → Int32) × (Nat → Int32) × (Nat → Int32) × (Nat → Int32) × (Nat → Int32))) = some _ from h)
  | succ n ih =>
    intro x1 x2 x3 dropped mem released owed counted h H locs ls hl hP hD hS
    unfold s_R_count_64 at h
    refine lv_iload_n hx hb d_R_count_64 rfl (lv_at hl 3 rfl) ?_
    refine lv_bipush (v := (nI 8)) hx hb d_R_count_65 (by decide) ?_
    refine lv_icmp_ge hx hb d_R_count_67 rfl (fun hc => ?_) (fun hc => ?_)
    · rw [if_pos hc] at h
      refine lv_iinc (k := 1) (v := (x1 + (nI 1))) (lv' := [(1, .int (x1 + (nI 1))), (0, .ref h_p0), (2, .int x2), (3, .int x3)]) hx hb d_R_count_121 hl rfl rfl (by decide) rfl (fun ls hl => ?_)
      refine lv_goto hx hb d_R_count_124 rfl ?_
      exact h23 (x1 + (nI 1)) dropped mem released owed counted h H locs ls (lv_sub hl [1, 0] rfl) hP hD hS
    · rw [if_neg hc] at h
      refine lv_iload_n hx hb d_R_count_70 rfl (lv_at hl 2 rfl) ?_
      refine lv_if_eq hx hb d_R_count_71 rfl (fun hc => ?_) (fun hc => ?_)
      · rw [if_pos hc] at h
        refine lv_iinc (k := 1) (v := (x1 + (nI 1))) (lv' := [(1, .int (x1 + (nI 1))), (0, .ref h_p0), (2, .int x2), (3, .int x3)]) hx hb d_R_count_121 hl rfl rfl (by decide) rfl (fun ls hl => ?_)
        refine lv_goto hx hb d_R_count_124 rfl ?_
        exact h23 (x1 + (nI 1)) dropped mem released owed counted h H locs ls (lv_sub hl [1, 0] rfl) hP hD hS
      · rw [if_neg hc] at h
        refine lv_aload_n hx hb d_R_count_74 rfl (lv_at hl 0 rfl) ?_
        refine va_get (D := D) (ci := 2) (v := .ref h_p0_m) (C := R_R) (T := F_R) (N := 12) hx hb ht in_R hown hK hP 0 rfl rfl 0 (by decide) (ht _ f_R_7) (fun _ h9 => h9) rfl d_R_count_75 ?_
        refine lv_bipush (v := (nI 30)) hx hb d_R_count_78 (by decide) ?_
        refine lv_iload_n hx hb d_R_count_80 rfl (lv_at hl 1 rfl) ?_
        refine lv_imul hx hb d_R_count_81 ?_
        refine lv_iload_n hx hb d_R_count_82 rfl (lv_at hl 3 rfl) ?_
        refine lv_iadd hx hb d_R_count_83 ?_
        obtain ⟨hin, h⟩ := gr_some h
        refine va_iald hx hb hK hP 1 0 rfl rfl hin d_R_count_84 ?_
        generalize mem (((nI 30) * x1) + x3).toNatClampNeg = v84 at h ⊢
        refine lv_if_ne hx hb d_R_count_85 rfl (fun hc => ?_) (fun hc => ?_)
        · rw [if_neg hc] at h
          refine lv_iinc (k := 3) (v := (x3 + (nI 1))) (lv' := [(3, .int (x3 + (nI 1))), (0, .ref h_p0), (1, .int x1), (2, .int x2)]) hx hb d_R_count_115 hl rfl rfl (by decide) rfl (fun ls hl => ?_)
          refine lv_goto hx hb d_R_count_118 rfl ?_
          exact ih x1 x2 (x3 + (nI 1)) dropped mem released owed counted h H locs ls (lv_sub hl [1, 2, 3, 0] rfl) hP hD hS
        · rw [if_pos hc] at h
          refine lv_aload_n hx hb d_R_count_88 rfl (lv_at hl 0 rfl) ?_
          refine lv_iload_n hx hb d_R_count_89 rfl (lv_at hl 1 rfl) ?_
          refine lv_iload_n hx hb d_R_count_90 rfl (lv_at hl 3 rfl) ?_
          obtain ⟨r91, h91, h⟩ := bd_some h
          refine wk_Vi (As := [.int x1, .int x3]) (rest := []) (wc := (w_R cI cZ h_p0 h_p0_m h_p0_d h_p0_fresh h_p0_young h_p0_dropped h_p0_released h_p0_owed h_p0_counted h_p0_inMemory h_p0_onDisk h_p0_thn mem dsk fresh young dropped released owed counted inMemory onDisk thn moved)) (w1 := (w_R cI cZ h_p0 h_p0_m h_p0_d h_p0_fresh h_p0_young h_p0_dropped h_p0_released h_p0_owed h_p0_counted h_p0_inMemory h_p0_onDisk h_p0_thn mem dsk fresh young dropped released owed counted inMemory onDisk thn moved)) (wr := []) (wz := (w_R cI cZ h_p0 h_p0_m h_p0_d h_p0_fresh h_p0_young h_p0_dropped h_p0_released h_p0_owed h_p0_counted h_p0_inMemory h_p0_onDisk h_p0_thn mem dsk fresh young dropped released owed counted inMemory onDisk thn moved)) cf hK hN hA (c_R_seen l D cI cZ h_p0 h_p0_m h_p0_d h_p0_fresh h_p0_young h_p0_dropped h_p0_released h_p0_owed h_p0_counted h_p0_inMemory h_p0_onDisk h_p0_thn mem dsk fresh young dropped released owed counted inMemory onDisk thn moved x1 x3 r91 h91) k_R_66 ⟨rfl, rfl, by decide, by decide⟩ 2 rfl rfl rfl hl hP hD hS [0, 1, 2, 3, 4, 5, 6, 7, 8, 9, 10, 11] [] [0, 1, 2, 3, 4, 5, 6, 7, 8, 9, 10, 11] rfl rfl rfl (by decide) rfl rfl rfl rfl rfl (Nat.le_of_ble_eq_true rfl) rfl d_R_count_91 (fun H locs hP hD hS => ?_)
          refine lv_if_eq hx hb d_R_count_94 rfl (fun hc => ?_) (fun hc => ?_)
          · rw [if_pos hc] at h
            refine lv_iinc (k := 3) (v := (x3 + (nI 1))) (lv' := [(3, .int (x3 + (nI 1))), (0, .ref h_p0), (1, .int x1), (2, .int x2)]) hx hb d_R_count_115 hl rfl rfl (by decide) rfl (fun ls hl => ?_)
            refine lv_goto hx hb d_R_count_118 rfl ?_
            exact ih x1 x2 (x3 + (nI 1)) dropped mem released owed counted h H locs ls (lv_sub hl [1, 2, 3, 0] rfl) hP hD hS
          · rw [if_neg hc] at h
            refine lv_aload_n hx hb d_R_count_97 rfl (lv_at hl 0 rfl) ?_
            refine va_get (D := D) (ci := 2) (v := .ref h_p0_counted) (C := R_R) (T := F_R) (N := 12) hx hb ht in_R hown hK hP 0 rfl rfl 7 (by decide) (ht _ f_R_32) (fun _ h9 => h9) rfl d_R_count_98 ?_
            refine lv_aload_n hx hb d_R_count_101 rfl (lv_at hl 0 rfl) ?_
            refine lv_iload_n hx hb d_R_count_102 rfl (lv_at hl 1 rfl) ?_
            refine lv_iload_n hx hb d_R_count_103 rfl (lv_at hl 3 rfl) ?_
            obtain ⟨r104, h104, h⟩ := bd_some h
            refine wk_Vi (As := [.int x1, .int x3]) (rest := [.ref h_p0_counted]) (wc := (w_R cI cZ h_p0 h_p0_m h_p0_d h_p0_fresh h_p0_young h_p0_dropped h_p0_released h_p0_owed h_p0_counted h_p0_inMemory h_p0_onDisk h_p0_thn mem dsk fresh young dropped released owed counted inMemory onDisk thn moved)) (w1 := (w_R cI cZ h_p0 h_p0_m h_p0_d h_p0_fresh h_p0_young h_p0_dropped h_p0_released h_p0_owed h_p0_counted h_p0_inMemory h_p0_onDisk h_p0_thn mem dsk fresh young dropped released owed counted inMemory onDisk thn moved)) (wr := []) (wz := (w_R cI cZ h_p0 h_p0_m h_p0_d h_p0_fresh h_p0_young h_p0_dropped h_p0_released h_p0_owed h_p0_counted h_p0_inMemory h_p0_onDisk h_p0_thn mem dsk fresh young dropped released owed counted inMemory onDisk thn moved)) cf hK hN hA (c_R_seen l D cI cZ h_p0 h_p0_m h_p0_d h_p0_fresh h_p0_young h_p0_dropped h_p0_released h_p0_owed h_p0_counted h_p0_inMemory h_p0_onDisk h_p0_thn mem dsk fresh young dropped released owed counted inMemory onDisk thn moved x1 x3 r104 h104) k_R_66 ⟨rfl, rfl, by decide, by decide⟩ 2 rfl rfl rfl hl hP hD hS [0, 1, 2, 3, 4, 5, 6, 7, 8, 9, 10, 11] [] [0, 1, 2, 3, 4, 5, 6, 7, 8, 9, 10, 11] rfl rfl rfl (by decide) rfl rfl rfl rfl rfl (Nat.le_of_ble_eq_true rfl) rfl d_R_count_104 (fun H locs hP hD hS => ?_)
            refine lv_bipush (v := (nI 32)) hx hb d_R_count_107 (by decide) ?_
            refine lv_irem hx hb d_R_count_109 (by decide) ?_
            refine lv_dup2_11 hx hb d_R_count_110 rfl rfl ?_
            obtain ⟨hin, h⟩ := gr_some h
            refine va_iald hx hb hK hP 8 0 rfl rfl hin d_R_count_111 ?_
            generalize counted (r104 - r104 / (nI 32) * (nI 32)).toNatClampNeg = v111 at h ⊢
            refine lv_iconst (v := (nI 1)) hx hb d_R_count_112 (by decide) ?_
            refine lv_iadd hx hb d_R_count_113 ?_
            obtain ⟨hin, h⟩ := ga_some h
            refine va_iast hx hb hK hP hD hS 8 0 rfl rfl hin d_R_count_114 (fun H locs hP hD hS => ?_)
            have hP : va_P D clA (w_R cI cZ h_p0 h_p0_m h_p0_d h_p0_fresh h_p0_young h_p0_dropped h_p0_released h_p0_owed h_p0_counted h_p0_inMemory h_p0_onDisk h_p0_thn mem dsk fresh young dropped released owed (upd counted (r104 - r104 / (nI 32) * (nI 32)).toNatClampNeg (v111 + (nI 1))) inMemory onDisk thn moved) H := hP
            have hD : va_D A (w_R cI cZ h_p0 h_p0_m h_p0_d h_p0_fresh h_p0_young h_p0_dropped h_p0_released h_p0_owed h_p0_counted h_p0_inMemory h_p0_onDisk h_p0_thn mem dsk fresh young dropped released owed (upd counted (r104 - r104 / (nI 32) * (nI 32)).toNatClampNeg (v111 + (nI 1))) inMemory onDisk thn moved) := hD
            refine lv_iinc (k := 3) (v := (x3 + (nI 1))) (lv' := [(3, .int (x3 + (nI 1))), (0, .ref h_p0), (1, .int x1), (2, .int x2)]) hx hb d_R_count_115 hl rfl rfl (by decide) rfl (fun ls hl => ?_)
            refine lv_goto hx hb d_R_count_118 rfl ?_
            exact ih x1 x2 (x3 + (nI 1)) dropped mem released owed (upd counted (r104 - r104 / (nI 32) * (nI 32)).toNatClampNeg (v111 + (nI 1))) h H locs ls (lv_sub hl [1, 2, 3, 0] rfl) hP hD hS
set_option maxHeartbeats 4000000 in
set_option maxRecDepth 100000 in
theorem w_R_count_61 {p : Program} {l : Launch} {e : Env} {s : State} {m : MethodId} {args : Array Value} {below : List Frame} {meth : Method} {c : Code} {D : va_G} {cI cZ : ClassId} {A : Nat → Prop} (h_p0 h_p0_m h_p0_d h_p0_fresh h_p0_young h_p0_dropped h_p0_released h_p0_owed h_p0_counted h_p0_inMemory h_p0_onDisk h_p0_thn : Nat) (F : Nat) (dsk : (Nat → Int32)) (fresh : (Nat → Int32)) (young : (Nat → Int32)) (inMemory : (Nat → Int32)) (onDisk : (Nat → Int32)) (thn : (Nat → Int32)) (moved : Int32) (dropped' : (Nat → Int32)) (mem' : (Nat → Int32)) (released' : (Nat → Int32)) (owed' : (Nat → Int32)) (counted' : (Nat → Int32)) (r : Int32) (k23 : Int32 → (Nat → Int32) → (Nat → Int32) → (Nat → Int32) → (Nat → Int32) → (Nat → Int32) → Option (Int32 × (Nat → Int32) × (Nat → Int32) × (Nat → Int32) × (Nat → Int32) × (Nat → Int32))) (cx : cx_ok p s m args meth c b_R_count 4 o_R_count "OrderedVolumeModel" (some .boolean) D cI cZ A) (h23 : (∀ (x1 : Int32) (dropped : (Nat → Int32)) (mem : (Nat → Int32)) (released : (Nat → Int32)) (owed : (Nat → Int32)) (counted : (Nat → Int32)), k23 x1 dropped mem released owed counted = some (r, dropped', mem', released', owed', counted') → wk_G p l e rm_R_count s m args below meth c (sc_Qi below args s D cI cZ A (w_R cI cZ h_p0 h_p0_m h_p0_d h_p0_fresh h_p0_young h_p0_dropped h_p0_released h_p0_owed h_p0_counted h_p0_inMemory h_p0_onDisk h_p0_thn (mem') dsk fresh young (dropped') (released') (owed') (counted') inMemory onDisk thn moved) r) D A 4 23 [] [(0, .ref h_p0), (1, .int x1)] (w_R cI cZ h_p0 h_p0_m h_p0_d h_p0_fresh h_p0_young h_p0_dropped h_p0_released h_p0_owed h_p0_counted h_p0_inMemory h_p0_onDisk h_p0_thn mem dsk fresh young dropped released owed counted inMemory onDisk thn moved))) : ∀ (x1 : Int32) (t0 : Int32) (dropped : (Nat → Int32)) (mem : (Nat → Int32)) (released : (Nat → Int32)) (owed : (Nat → Int32)) (counted : (Nat → Int32)), s_R_count_61 F dsk fresh k23 x1 t0 dropped mem released owed counted = some (r, dropped', mem', released', owed', counted') → wk_G p l e rm_R_count s m args below meth c (sc_Qi below args s D cI cZ A (w_R cI cZ h_p0 h_p0_m h_p0_d h_p0_fresh h_p0_young h_p0_dropped h_p0_released h_p0_owed h_p0_counted h_p0_inMemory h_p0_onDisk h_p0_thn (mem') dsk fresh young (dropped') (released') (owed') (counted') inMemory onDisk thn moved) r) D A 4 61 [.int t0] [(0, .ref h_p0), (1, .int x1)] (w_R cI cZ h_p0 h_p0_m h_p0_d h_p0_fresh h_p0_young h_p0_dropped h_p0_released h_p0_owed h_p0_counted h_p0_inMemory h_p0_onDisk h_p0_thn mem dsk fresh young dropped released owed counted inMemory onDisk thn moved) := by
  obtain ⟨cf, hr, hlk, hK, hN, hA⟩ := cx
  have hx := cf.1
  have hb := cf.2.1
  have hown := cf.2.2.2.1
  have ht : ∀ w ∈ wA, w.before args s = true := fun w h => cf.2.2.2.2 w (List.mem_cons_of_mem _ h)
  intro x1 t0 dropped mem released owed counted h H locs ls hl hP hD hS
  unfold s_R_count_61 at h
  refine lv_istore_n (lv' := [(2, .int t0), (0, .ref h_p0), (1, .int x1)]) hx hb d_R_count_61 rfl hl (by decide) rfl (fun ls hl => ?_)
  refine lv_iconst (v := (nI 0)) hx hb d_R_count_62 (by decide) ?_
  refine lv_istore_n (lv' := [(3, .int (nI 0)), (2, .int t0), (0, .ref h_p0), (1, .int x1)]) hx hb d_R_count_63 rfl hl (by decide) rfl (fun ls hl => ?_)
  exact w_R_count_64 h_p0 h_p0_m h_p0_d h_p0_fresh h_p0_young h_p0_dropped h_p0_released h_p0_owed h_p0_counted h_p0_inMemory h_p0_onDisk h_p0_thn F dsk fresh young inMemory onDisk thn moved dropped' mem' released' owed' counted' r _ ⟨cf, hr, hlk, hK, hN, hA⟩ h23 F x1 t0 (nI 0) dropped mem released owed counted h H locs ls (lv_sub hl [2, 3, 1, 0] rfl) hP hD hS
set_option maxHeartbeats 4000000 in
set_option maxRecDepth 100000 in
theorem w_R_count_60 {p : Program} {l : Launch} {e : Env} {s : State} {m : MethodId} {args : Array Value} {below : List Frame} {meth : Method} {c : Code} {D : va_G} {cI cZ : ClassId} {A : Nat → Prop} (h_p0 h_p0_m h_p0_d h_p0_fresh h_p0_young h_p0_dropped h_p0_released h_p0_owed h_p0_counted h_p0_inMemory h_p0_onDisk h_p0_thn : Nat) (F : Nat) (dsk : (Nat → Int32)) (fresh : (Nat → Int32)) (young : (Nat → Int32)) (inMemory : (Nat → Int32)) (onDisk : (Nat → Int32)) (thn : (Nat → Int32)) (moved : Int32) (dropped' : (Nat → Int32)) (mem' : (Nat → Int32)) (released' : (Nat → Int32)) (owed' : (Nat → Int32)) (counted' : (Nat → Int32)) (r : Int32) (k23 : Int32 → (Nat → Int32) → (Nat → Int32) → (Nat → Int32) → (Nat → Int32) → (Nat → Int32) → Option (Int32 × (Nat → Int32) × (Nat → Int32) × (Nat → Int32) × (Nat → Int32) × (Nat → Int32))) (cx : cx_ok p s m args meth c b_R_count 4 o_R_count "OrderedVolumeModel" (some .boolean) D cI cZ A) (h23 : (∀ (x1 : Int32) (dropped : (Nat → Int32)) (mem : (Nat → Int32)) (released : (Nat → Int32)) (owed : (Nat → Int32)) (counted : (Nat → Int32)), k23 x1 dropped mem released owed counted = some (r, dropped', mem', released', owed', counted') → wk_G p l e rm_R_count s m args below meth c (sc_Qi below args s D cI cZ A (w_R cI cZ h_p0 h_p0_m h_p0_d h_p0_fresh h_p0_young h_p0_dropped h_p0_released h_p0_owed h_p0_counted h_p0_inMemory h_p0_onDisk h_p0_thn (mem') dsk fresh young (dropped') (released') (owed') (counted') inMemory onDisk thn moved) r) D A 4 23 [] [(0, .ref h_p0), (1, .int x1)] (w_R cI cZ h_p0 h_p0_m h_p0_d h_p0_fresh h_p0_young h_p0_dropped h_p0_released h_p0_owed h_p0_counted h_p0_inMemory h_p0_onDisk h_p0_thn mem dsk fresh young dropped released owed counted inMemory onDisk thn moved))) : ∀ (x1 : Int32) (dropped : (Nat → Int32)) (mem : (Nat → Int32)) (released : (Nat → Int32)) (owed : (Nat → Int32)) (counted : (Nat → Int32)), s_R_count_60 F dsk fresh k23 x1 dropped mem released owed counted = some (r, dropped', mem', released', owed', counted') → wk_G p l e rm_R_count s m args below meth c (sc_Qi below args s D cI cZ A (w_R cI cZ h_p0 h_p0_m h_p0_d h_p0_fresh h_p0_young h_p0_dropped h_p0_released h_p0_owed h_p0_counted h_p0_inMemory h_p0_onDisk h_p0_thn (mem') dsk fresh young (dropped') (released') (owed') (counted') inMemory onDisk thn moved) r) D A 4 60 [] [(0, .ref h_p0), (1, .int x1)] (w_R cI cZ h_p0 h_p0_m h_p0_d h_p0_fresh h_p0_young h_p0_dropped h_p0_released h_p0_owed h_p0_counted h_p0_inMemory h_p0_onDisk h_p0_thn mem dsk fresh young dropped released owed counted inMemory onDisk thn moved) := by
  obtain ⟨cf, hr, hlk, hK, hN, hA⟩ := cx
  have hx := cf.1
  have hb := cf.2.1
  have hown := cf.2.2.2.1
  have ht : ∀ w ∈ wA, w.before args s = true := fun w h => cf.2.2.2.2 w (List.mem_cons_of_mem _ h)
  intro x1 dropped mem released owed counted h H locs ls hl hP hD hS
  unfold s_R_count_60 at h
  refine lv_iconst (v := (nI 0)) hx hb d_R_count_60 (by decide) ?_
  exact w_R_count_61 h_p0 h_p0_m h_p0_d h_p0_fresh h_p0_young h_p0_dropped h_p0_released h_p0_owed h_p0_counted h_p0_inMemory h_p0_onDisk h_p0_thn F dsk fresh young inMemory onDisk thn moved dropped' mem' released' owed' counted' r _ ⟨cf, hr, hlk, hK, hN, hA⟩ h23 x1 (nI 0) dropped mem released owed counted h H locs ls (lv_sub hl [0, 1] rfl) hP hD hS
set_option maxHeartbeats 4000000 in
set_option maxRecDepth 100000 in
theorem w_R_count_56 {p : Program} {l : Launch} {e : Env} {s : State} {m : MethodId} {args : Array Value} {below : List Frame} {meth : Method} {c : Code} {D : va_G} {cI cZ : ClassId} {A : Nat → Prop} (h_p0 h_p0_m h_p0_d h_p0_fresh h_p0_young h_p0_dropped h_p0_released h_p0_owed h_p0_counted h_p0_inMemory h_p0_onDisk h_p0_thn : Nat) (F : Nat) (dsk : (Nat → Int32)) (fresh : (Nat → Int32)) (young : (Nat → Int32)) (inMemory : (Nat → Int32)) (onDisk : (Nat → Int32)) (thn : (Nat → Int32)) (moved : Int32) (dropped' : (Nat → Int32)) (mem' : (Nat → Int32)) (released' : (Nat → Int32)) (owed' : (Nat → Int32)) (counted' : (Nat → Int32)) (r : Int32) (k23 : Int32 → (Nat → Int32) → (Nat → Int32) → (Nat → Int32) → (Nat → Int32) → (Nat → Int32) → Option (Int32 × (Nat → Int32) × (Nat → Int32) × (Nat → Int32) × (Nat → Int32) × (Nat → Int32))) (cx : cx_ok p s m args meth c b_R_count 4 o_R_count "OrderedVolumeModel" (some .boolean) D cI cZ A) (h23 : (∀ (x1 : Int32) (dropped : (Nat → Int32)) (mem : (Nat → Int32)) (released : (Nat → Int32)) (owed : (Nat → Int32)) (counted : (Nat → Int32)), k23 x1 dropped mem released owed counted = some (r, dropped', mem', released', owed', counted') → wk_G p l e rm_R_count s m args below meth c (sc_Qi below args s D cI cZ A (w_R cI cZ h_p0 h_p0_m h_p0_d h_p0_fresh h_p0_young h_p0_dropped h_p0_released h_p0_owed h_p0_counted h_p0_inMemory h_p0_onDisk h_p0_thn (mem') dsk fresh young (dropped') (released') (owed') (counted') inMemory onDisk thn moved) r) D A 4 23 [] [(0, .ref h_p0), (1, .int x1)] (w_R cI cZ h_p0 h_p0_m h_p0_d h_p0_fresh h_p0_young h_p0_dropped h_p0_released h_p0_owed h_p0_counted h_p0_inMemory h_p0_onDisk h_p0_thn mem dsk fresh young dropped released owed counted inMemory onDisk thn moved))) : ∀ (x1 : Int32) (dropped : (Nat → Int32)) (mem : (Nat → Int32)) (released : (Nat → Int32)) (owed : (Nat → Int32)) (counted : (Nat → Int32)), s_R_count_56 F dsk fresh k23 x1 dropped mem released owed counted = some (r, dropped', mem', released', owed', counted') → wk_G p l e rm_R_count s m args below meth c (sc_Qi below args s D cI cZ A (w_R cI cZ h_p0 h_p0_m h_p0_d h_p0_fresh h_p0_young h_p0_dropped h_p0_released h_p0_owed h_p0_counted h_p0_inMemory h_p0_onDisk h_p0_thn (mem') dsk fresh young (dropped') (released') (owed') (counted') inMemory onDisk thn moved) r) D A 4 56 [] [(0, .ref h_p0), (1, .int x1)] (w_R cI cZ h_p0 h_p0_m h_p0_d h_p0_fresh h_p0_young h_p0_dropped h_p0_released h_p0_owed h_p0_counted h_p0_inMemory h_p0_onDisk h_p0_thn mem dsk fresh young dropped released owed counted inMemory onDisk thn moved) := by
  obtain ⟨cf, hr, hlk, hK, hN, hA⟩ := cx
  have hx := cf.1
  have hb := cf.2.1
  have hown := cf.2.2.2.1
  have ht : ∀ w ∈ wA, w.before args s = true := fun w h => cf.2.2.2.2 w (List.mem_cons_of_mem _ h)
  intro x1 dropped mem released owed counted h H locs ls hl hP hD hS
  unfold s_R_count_56 at h
  refine lv_iconst (v := (nI 1)) hx hb d_R_count_56 (by decide) ?_
  refine lv_goto hx hb d_R_count_57 rfl ?_
  exact w_R_count_61 h_p0 h_p0_m h_p0_d h_p0_fresh h_p0_young h_p0_dropped h_p0_released h_p0_owed h_p0_counted h_p0_inMemory h_p0_onDisk h_p0_thn F dsk fresh young inMemory onDisk thn moved dropped' mem' released' owed' counted' r _ ⟨cf, hr, hlk, hK, hN, hA⟩ h23 x1 (nI 1) dropped mem released owed counted h H locs ls (lv_sub hl [0, 1] rfl) hP hD hS
set_option maxHeartbeats 4000000 in
set_option maxRecDepth 100000 in
theorem w_R_count_23 {p : Program} {l : Launch} {e : Env} {s : State} {m : MethodId} {args : Array Value} {below : List Frame} {meth : Method} {c : Code} {D : va_G} {cI cZ : ClassId} {A : Nat → Prop} (h_p0 h_p0_m h_p0_d h_p0_fresh h_p0_young h_p0_dropped h_p0_released h_p0_owed h_p0_counted h_p0_inMemory h_p0_onDisk h_p0_thn : Nat) (F : Nat) (dsk : (Nat → Int32)) (fresh : (Nat → Int32)) (young : (Nat → Int32)) (inMemory : (Nat → Int32)) (onDisk : (Nat → Int32)) (thn : (Nat → Int32)) (moved : Int32) (dropped' : (Nat → Int32)) (mem' : (Nat → Int32)) (released' : (Nat → Int32)) (owed' : (Nat → Int32)) (counted' : (Nat → Int32)) (r : Int32) (cx : cx_ok p s m args meth c b_R_count 4 o_R_count "OrderedVolumeModel" (some .boolean) D cI cZ A) : ∀ (n : Nat) (x1 : Int32) (dropped : (Nat → Int32)) (mem : (Nat → Int32)) (released : (Nat → Int32)) (owed : (Nat → Int32)) (counted : (Nat → Int32)), s_R_count_23 F dsk fresh n x1 dropped mem released owed counted = some (r, dropped', mem', released', owed', counted') → wk_G p l e rm_R_count s m args below meth c (sc_Qi below args s D cI cZ A (w_R cI cZ h_p0 h_p0_m h_p0_d h_p0_fresh h_p0_young h_p0_dropped h_p0_released h_p0_owed h_p0_counted h_p0_inMemory h_p0_onDisk h_p0_thn (mem') dsk fresh young (dropped') (released') (owed') (counted') inMemory onDisk thn moved) r) D A 4 23 [] [(0, .ref h_p0), (1, .int x1)] (w_R cI cZ h_p0 h_p0_m h_p0_d h_p0_fresh h_p0_young h_p0_dropped h_p0_released h_p0_owed h_p0_counted h_p0_inMemory h_p0_onDisk h_p0_thn mem dsk fresh young dropped released owed counted inMemory onDisk thn moved) := by
  obtain ⟨cf, hr, hlk, hK, hN, hA⟩ := cx
  have hx := cf.1
  have hb := cf.2.1
  have hown := cf.2.2.2.1
  have ht : ∀ w ∈ wA, w.before args s = true := fun w h => cf.2.2.2.2 w (List.mem_cons_of_mem _ h)
  intro n
  induction n with
  | zero => intro x1 dropped mem released owed counted h; cases (show (none : Option (Int32 × (Nat → Int32) × (Nat → Int32) × (Nat → Int32) × (Nat → Int32) × (Nat → Int32))) = some _ from h)
  | succ n ih =>
    intro x1 dropped mem released owed counted h H locs ls hl hP hD hS
    unfold s_R_count_23 at h
    refine lv_iload_n hx hb d_R_count_23 rfl (lv_at hl 1 rfl) ?_
    refine lv_bipush (v := (nI 36)) hx hb d_R_count_24 (by decide) ?_
    refine lv_icmp_ge hx hb d_R_count_26 rfl (fun hc => ?_) (fun hc => ?_)
    · rw [if_pos hc] at h
      refine lv_iconst (v := (nI 0)) hx hb d_R_count_127 (by decide) ?_
      refine lv_istore_n (lv' := [(1, .int (nI 0)), (0, .ref h_p0)]) hx hb d_R_count_128 rfl hl (by decide) rfl (fun ls hl => ?_)
      refine lv_iconst (v := (nI 0)) hx hb d_R_count_129 (by decide) ?_
      refine lv_istore_n (lv' := [(2, .int (nI 0)), (1, .int (nI 0)), (0, .ref h_p0)]) hx hb d_R_count_130 rfl hl (by decide) rfl (fun ls hl => ?_)
      exact w_R_count_131 h_p0 h_p0_m h_p0_d h_p0_fresh h_p0_young h_p0_dropped h_p0_released h_p0_owed h_p0_counted h_p0_inMemory h_p0_onDisk h_p0_thn F dsk fresh young inMemory onDisk thn moved dropped' mem' released' owed' counted' r ⟨cf, hr, hlk, hK, hN, hA⟩ F (nI 0) (nI 0) dropped mem released owed counted h H locs ls (lv_sub hl [2, 1, 0] rfl) hP hD hS
    · rw [if_neg hc] at h
      refine lv_iload_n hx hb d_R_count_29 rfl (lv_at hl 1 rfl) ?_
      refine lv_bipush (v := (nI 12)) hx hb d_R_count_30 (by decide) ?_
      refine lv_irem hx hb d_R_count_32 (by decide) ?_
      refine lv_iconst (v := (nI 1)) hx hb d_R_count_33 (by decide) ?_
      refine lv_icmp_le hx hb d_R_count_34 rfl (fun hc => ?_) (fun hc => ?_)
      · rw [if_pos hc] at h
        exact w_R_count_60 h_p0 h_p0_m h_p0_d h_p0_fresh h_p0_young h_p0_dropped h_p0_released h_p0_owed h_p0_counted h_p0_inMemory h_p0_onDisk h_p0_thn F dsk fresh young inMemory onDisk thn moved dropped' mem' released' owed' counted' r _ ⟨cf, hr, hlk, hK, hN, hA⟩ ih x1 dropped mem released owed counted h H locs ls (lv_sub hl [0, 1] rfl) hP hD hS
      · rw [if_neg hc] at h
        refine lv_aload_n hx hb d_R_count_37 rfl (lv_at hl 0 rfl) ?_
        refine va_get (D := D) (ci := 2) (v := .ref h_p0_dropped) (C := R_R) (T := F_R) (N := 12) hx hb ht in_R hown hK hP 0 rfl rfl 4 (by decide) (ht _ f_R_23) (fun _ h9 => h9) rfl d_R_count_38 ?_
        refine lv_iload_n hx hb d_R_count_41 rfl (lv_at hl 1 rfl) ?_
        obtain ⟨hin, h⟩ := gr_some h
        refine va_iald hx hb hK hP 5 0 rfl rfl hin d_R_count_42 ?_
        generalize dropped x1.toNatClampNeg = v42 at h ⊢
        refine lv_iconst (v := (nI 2)) hx hb d_R_count_43 (by decide) ?_
        refine lv_icmp_eq hx hb d_R_count_44 rfl (fun hc => ?_) (fun hc => ?_)
        · rw [if_pos hc] at h
          exact w_R_count_56 h_p0 h_p0_m h_p0_d h_p0_fresh h_p0_young h_p0_dropped h_p0_released h_p0_owed h_p0_counted h_p0_inMemory h_p0_onDisk h_p0_thn F dsk fresh young inMemory onDisk thn moved dropped' mem' released' owed' counted' r _ ⟨cf, hr, hlk, hK, hN, hA⟩ ih x1 dropped mem released owed counted h H locs ls (lv_sub hl [0, 1] rfl) hP hD hS
        · rw [if_neg hc] at h
          refine lv_aload_n hx hb d_R_count_47 rfl (lv_at hl 0 rfl) ?_
          refine lv_iload_n hx hb d_R_count_48 rfl (lv_at hl 1 rfl) ?_
          obtain ⟨r49, h49, h⟩ := bd_some h
          refine wk_Vi (As := [.int x1]) (rest := []) (wc := (w_R cI cZ h_p0 h_p0_m h_p0_d h_p0_fresh h_p0_young h_p0_dropped h_p0_released h_p0_owed h_p0_counted h_p0_inMemory h_p0_onDisk h_p0_thn mem dsk fresh young dropped released owed counted inMemory onDisk thn moved)) (w1 := (w_R cI cZ h_p0 h_p0_m h_p0_d h_p0_fresh h_p0_young h_p0_dropped h_p0_released h_p0_owed h_p0_counted h_p0_inMemory h_p0_onDisk h_p0_thn mem dsk fresh young dropped released owed counted inMemory onDisk thn moved)) (wr := []) (wz := (w_R cI cZ h_p0 h_p0_m h_p0_d h_p0_fresh h_p0_young h_p0_dropped h_p0_released h_p0_owed h_p0_counted h_p0_inMemory h_p0_onDisk h_p0_thn mem dsk fresh young dropped released owed counted inMemory onDisk thn moved)) cf hK hN hA (c_R_owner l D cI cZ h_p0 h_p0_m h_p0_d h_p0_fresh h_p0_young h_p0_dropped h_p0_released h_p0_owed h_p0_counted h_p0_inMemory h_p0_onDisk h_p0_thn F mem dsk fresh young dropped released owed counted inMemory onDisk thn moved x1 r49 h49) k_R_93 ⟨rfl, rfl, by decide, by decide⟩ 2 rfl rfl rfl hl hP hD hS [0, 1, 2, 3, 4, 5, 6, 7, 8, 9, 10, 11] [] [0, 1, 2, 3, 4, 5, 6, 7, 8, 9, 10, 11] rfl rfl rfl (by decide) rfl rfl rfl rfl rfl (Nat.le_of_ble_eq_true rfl) rfl d_R_count_49 (fun H locs hP hD hS => ?_)
          refine lv_iconst (v := (nI 2)) hx hb d_R_count_52 (by decide) ?_
          refine lv_icmp_ne hx hb d_R_count_53 rfl (fun hc => ?_) (fun hc => ?_)
          · rw [if_neg hc] at h
            exact w_R_count_60 h_p0 h_p0_m h_p0_d h_p0_fresh h_p0_young h_p0_dropped h_p0_released h_p0_owed h_p0_counted h_p0_inMemory h_p0_onDisk h_p0_thn F dsk fresh young inMemory onDisk thn moved dropped' mem' released' owed' counted' r _ ⟨cf, hr, hlk, hK, hN, hA⟩ ih x1 dropped mem released owed counted h H locs ls (lv_sub hl [0, 1] rfl) hP hD hS
          · rw [if_pos hc] at h
            exact w_R_count_56 h_p0 h_p0_m h_p0_d h_p0_fresh h_p0_young h_p0_dropped h_p0_released h_p0_owed h_p0_counted h_p0_inMemory h_p0_onDisk h_p0_thn F dsk fresh young inMemory onDisk thn moved dropped' mem' released' owed' counted' r _ ⟨cf, hr, hlk, hK, hN, hA⟩ ih x1 dropped mem released owed counted h H locs ls (lv_sub hl [0, 1] rfl) hP hD hS
set_option maxHeartbeats 4000000 in
set_option maxRecDepth 100000 in
theorem w_R_count_2 {p : Program} {l : Launch} {e : Env} {s : State} {m : MethodId} {args : Array Value} {below : List Frame} {meth : Method} {c : Code} {D : va_G} {cI cZ : ClassId} {A : Nat → Prop} (h_p0 h_p0_m h_p0_d h_p0_fresh h_p0_young h_p0_dropped h_p0_released h_p0_owed h_p0_counted h_p0_inMemory h_p0_onDisk h_p0_thn : Nat) (F : Nat) (dsk : (Nat → Int32)) (fresh : (Nat → Int32)) (young : (Nat → Int32)) (inMemory : (Nat → Int32)) (onDisk : (Nat → Int32)) (thn : (Nat → Int32)) (moved : Int32) (dropped' : (Nat → Int32)) (mem' : (Nat → Int32)) (released' : (Nat → Int32)) (owed' : (Nat → Int32)) (counted' : (Nat → Int32)) (r : Int32) (cx : cx_ok p s m args meth c b_R_count 4 o_R_count "OrderedVolumeModel" (some .boolean) D cI cZ A) : ∀ (n : Nat) (x1 : Int32) (dropped : (Nat → Int32)) (mem : (Nat → Int32)) (released : (Nat → Int32)) (owed : (Nat → Int32)) (counted : (Nat → Int32)), s_R_count_2 F dsk fresh n x1 dropped mem released owed counted = some (r, dropped', mem', released', owed', counted') → wk_G p l e rm_R_count s m args below meth c (sc_Qi below args s D cI cZ A (w_R cI cZ h_p0 h_p0_m h_p0_d h_p0_fresh h_p0_young h_p0_dropped h_p0_released h_p0_owed h_p0_counted h_p0_inMemory h_p0_onDisk h_p0_thn (mem') dsk fresh young (dropped') (released') (owed') (counted') inMemory onDisk thn moved) r) D A 4 2 [] [(0, .ref h_p0), (1, .int x1)] (w_R cI cZ h_p0 h_p0_m h_p0_d h_p0_fresh h_p0_young h_p0_dropped h_p0_released h_p0_owed h_p0_counted h_p0_inMemory h_p0_onDisk h_p0_thn mem dsk fresh young dropped released owed counted inMemory onDisk thn moved) := by
  obtain ⟨cf, hr, hlk, hK, hN, hA⟩ := cx
  have hx := cf.1
  have hb := cf.2.1
  have hown := cf.2.2.2.1
  have ht : ∀ w ∈ wA, w.before args s = true := fun w h => cf.2.2.2.2 w (List.mem_cons_of_mem _ h)
  intro n
  induction n with
  | zero => intro x1 dropped mem released owed counted h; cases (show (none : Option (Int32 × (Nat → Int32) × (Nat → Int32) × (Nat → Int32) × (Nat → Int32) × (Nat → Int32))) = some _ from h)
  | succ n ih =>
    intro x1 dropped mem released owed counted h H locs ls hl hP hD hS
    unfold s_R_count_2 at h
    refine lv_iload_n hx hb d_R_count_2 rfl (lv_at hl 1 rfl) ?_
    refine lv_bipush (v := (nI 18)) hx hb d_R_count_3 (by decide) ?_
    refine lv_icmp_ge hx hb d_R_count_5 rfl (fun hc => ?_) (fun hc => ?_)
    · rw [if_pos hc] at h
      refine lv_iconst (v := (nI 0)) hx hb d_R_count_21 (by decide) ?_
      refine lv_istore_n (lv' := [(1, .int (nI 0)), (0, .ref h_p0)]) hx hb d_R_count_22 rfl hl (by decide) rfl (fun ls hl => ?_)
      exact w_R_count_23 h_p0 h_p0_m h_p0_d h_p0_fresh h_p0_young h_p0_dropped h_p0_released h_p0_owed h_p0_counted h_p0_inMemory h_p0_onDisk h_p0_thn F dsk fresh young inMemory onDisk thn moved dropped' mem' released' owed' counted' r ⟨cf, hr, hlk, hK, hN, hA⟩ F (nI 0) dropped mem released owed counted h H locs ls (lv_sub hl [1, 0] rfl) hP hD hS
    · rw [if_neg hc] at h
      refine lv_aload_n hx hb d_R_count_8 rfl (lv_at hl 0 rfl) ?_
      refine va_get (D := D) (ci := 2) (v := .ref h_p0_counted) (C := R_R) (T := F_R) (N := 12) hx hb ht in_R hown hK hP 0 rfl rfl 7 (by decide) (ht _ f_R_32) (fun _ h9 => h9) rfl d_R_count_9 ?_
      refine lv_iload_n hx hb d_R_count_12 rfl (lv_at hl 1 rfl) ?_
      refine lv_iconst (v := (nI 0)) hx hb d_R_count_13 (by decide) ?_
      obtain ⟨hin, h⟩ := ga_some h
      refine va_iast hx hb hK hP hD hS 8 0 rfl rfl hin d_R_count_14 (fun H locs hP hD hS => ?_)
      have hP : va_P D clA (w_R cI cZ h_p0 h_p0_m h_p0_d h_p0_fresh h_p0_young h_p0_dropped h_p0_released h_p0_owed h_p0_counted h_p0_inMemory h_p0_onDisk h_p0_thn mem dsk fresh young dropped released owed (upd counted x1.toNatClampNeg (nI 0)) inMemory onDisk thn moved) H := hP
      have hD : va_D A (w_R cI cZ h_p0 h_p0_m h_p0_d h_p0_fresh h_p0_young h_p0_dropped h_p0_released h_p0_owed h_p0_counted h_p0_inMemory h_p0_onDisk h_p0_thn mem dsk fresh young dropped released owed (upd counted x1.toNatClampNeg (nI 0)) inMemory onDisk thn moved) := hD
      refine lv_iinc (k := 1) (v := (x1 + (nI 1))) (lv' := [(1, .int (x1 + (nI 1))), (0, .ref h_p0)]) hx hb d_R_count_15 hl rfl rfl (by decide) rfl (fun ls hl => ?_)
      refine lv_goto hx hb d_R_count_18 rfl ?_
      exact ih (x1 + (nI 1)) dropped mem released owed (upd counted x1.toNatClampNeg (nI 0)) h H locs ls (lv_sub hl [1, 0] rfl) hP hD hS
set_option maxHeartbeats 4000000 in
set_option maxRecDepth 100000 in
theorem c_R_count (l : Launch) (D : va_G) (cI cZ : ClassId) (h_p0 h_p0_m h_p0_d h_p0_fresh h_p0_young h_p0_dropped h_p0_released h_p0_owed h_p0_counted h_p0_inMemory h_p0_onDisk h_p0_thn : Nat) (F : Nat) (mem : (Nat → Int32)) (dsk : (Nat → Int32)) (fresh : (Nat → Int32)) (young : (Nat → Int32)) (dropped : (Nat → Int32)) (released : (Nat → Int32)) (owed : (Nat → Int32)) (counted : (Nat → Int32)) (inMemory : (Nat → Int32)) (onDisk : (Nat → Int32)) (thn : (Nat → Int32)) (moved : Int32) (dropped' : (Nat → Int32)) (mem' : (Nat → Int32)) (released' : (Nat → Int32)) (owed' : (Nat → Int32)) (counted' : (Nat → Int32)) (r : Int32) (h : s_R_count F dsk fresh dropped mem released owed counted = some (r, dropped', mem', released', owed', counted')) : sc_i l y_R_count (o_R_count :: wA) rm_R_count D cI cZ [.ref h_p0] (w_R cI cZ h_p0 h_p0_m h_p0_d h_p0_fresh h_p0_young h_p0_dropped h_p0_released h_p0_owed h_p0_counted h_p0_inMemory h_p0_onDisk h_p0_thn mem dsk fresh young dropped released owed counted inMemory onDisk thn moved) (w_R cI cZ h_p0 h_p0_m h_p0_d h_p0_fresh h_p0_young h_p0_dropped h_p0_released h_p0_owed h_p0_counted h_p0_inMemory h_p0_onDisk h_p0_thn (mem') dsk fresh young (dropped') (released') (owed') (counted') inMemory onDisk thn moved) r := by
  refine sc_i_of (cc := b_R_count) (maxL := 4) (ret := (some .boolean)) (by decide) rfl (Nat.le_of_ble_eq_true rfl) ?_
  intro p e s m below meth c A cf hr hlk hK hN hA H locs ls hl hP hD hS
  have hx := cf.1
  have hb := cf.2.1
  have hown := cf.2.2.2.1
  have ht : ∀ w ∈ wA, w.before _ s = true := fun w h => cf.2.2.2.2 w (List.mem_cons_of_mem _ h)
  unfold s_R_count at h
  have hl : lv_has ls 4 [(0, .ref h_p0)] := hl
  refine lv_iconst (v := (nI 0)) hx hb d_R_count_0 (by decide) ?_
  refine lv_istore_n (lv' := [(1, .int (nI 0)), (0, .ref h_p0)]) hx hb d_R_count_1 rfl hl (by decide) rfl (fun ls hl => ?_)
  exact w_R_count_2 h_p0 h_p0_m h_p0_d h_p0_fresh h_p0_young h_p0_dropped h_p0_released h_p0_owed h_p0_counted h_p0_inMemory h_p0_onDisk h_p0_thn F dsk fresh young inMemory onDisk thn moved dropped' mem' released' owed' counted' r ⟨cf, hr, hlk, hK, hN, hA⟩ F (nI 0) dropped mem released owed counted h H locs ls (lv_sub hl [1, 0] rfl) hP hD hS
set_option maxHeartbeats 4000000 in
set_option maxRecDepth 100000 in
theorem w_R_crash_88 {p : Program} {l : Launch} {e : Env} {s : State} {m : MethodId} {args : Array Value} {below : List Frame} {meth : Method} {c : Code} {D : va_G} {cI cZ : ClassId} {A : Nat → Prop} (h_p0 h_p0_m h_p0_d h_p0_fresh h_p0_young h_p0_dropped h_p0_released h_p0_owed h_p0_counted h_p0_inMemory h_p0_onDisk h_p0_thn : Nat) (F : Nat) (dsk : (Nat → Int32)) (counted : (Nat → Int32)) (inMemory : (Nat → Int32)) (onDisk : (Nat → Int32)) (thn : (Nat → Int32)) (moved : Int32) (young' : (Nat → Int32)) (dropped' : (Nat → Int32)) (mem' : (Nat → Int32)) (fresh' : (Nat → Int32)) (released' : (Nat → Int32)) (owed' : (Nat → Int32)) (r : Int32) (cx : cx_ok p s m args meth c b_R_crash 2 o_R_crash "OrderedVolumeModel" (some .boolean) D cI cZ A) : ∀ (n : Nat) (x1 : Int32) (young : (Nat → Int32)) (dropped : (Nat → Int32)) (mem : (Nat → Int32)) (fresh : (Nat → Int32)) (released : (Nat → Int32)) (owed : (Nat → Int32)), s_R_crash_88 F dsk moved n x1 young dropped mem fresh released owed = some (r, young', dropped', mem', fresh', released', owed') → wk_G p l e rm_R_crash s m args below meth c (sc_Qi below args s D cI cZ A (w_R cI cZ h_p0 h_p0_m h_p0_d h_p0_fresh h_p0_young h_p0_dropped h_p0_released h_p0_owed h_p0_counted h_p0_inMemory h_p0_onDisk h_p0_thn (mem') dsk (fresh') (young') (dropped') (released') (owed') counted inMemory onDisk thn moved) r) D A 2 88 [] [(0, .ref h_p0), (1, .int x1)] (w_R cI cZ h_p0 h_p0_m h_p0_d h_p0_fresh h_p0_young h_p0_dropped h_p0_released h_p0_owed h_p0_counted h_p0_inMemory h_p0_onDisk h_p0_thn mem dsk fresh young dropped released owed counted inMemory onDisk thn moved) := by
  obtain ⟨cf, hr, hlk, hK, hN, hA⟩ := cx
  have hx := cf.1
  have hb := cf.2.1
  have hown := cf.2.2.2.1
  have ht : ∀ w ∈ wA, w.before args s = true := fun w h => cf.2.2.2.2 w (List.mem_cons_of_mem _ h)
  intro n
  induction n with
  | zero => intro x1 young dropped mem fresh released owed h; cases (show (none : Option (Int32 × (Nat → Int32) × (Nat → Int32) × (Nat → Int32) × (Nat → Int32) × (Nat → Int32) × (Nat → Int32))) = some _ from h)
  | succ n ih =>
    intro x1 young dropped mem fresh released owed h H locs ls hl hP hD hS
    unfold s_R_crash_88 at h
    refine lv_iload_n hx hb d_R_crash_88 rfl (lv_at hl 1 rfl) ?_
    refine lv_bipush (v := (nI 18)) hx hb d_R_crash_89 (by decide) ?_
    refine lv_icmp_ge hx hb d_R_crash_91 rfl (fun hc => ?_) (fun hc => ?_)
    · rw [if_pos hc] at h
      refine lv_iconst (v := (nI 1)) hx hb d_R_crash_114 (by decide) ?_
      have hz : ((nI 1) : Int32) = 0 ∨ ((nI 1) : Int32) = 1 := by decide
      cases h
      exact sc_zret cf hr hlk hz hK hP hD hS d_R_crash_115
    · rw [if_neg hc] at h
      refine lv_aload_n hx hb d_R_crash_94 rfl (lv_at hl 0 rfl) ?_
      refine va_get (D := D) (ci := 2) (v := .ref h_p0_released) (C := R_R) (T := F_R) (N := 12) hx hb ht in_R hown hK hP 0 rfl rfl 5 (by decide) (ht _ f_R_26) (fun _ h9 => h9) rfl d_R_crash_95 ?_
      refine lv_iload_n hx hb d_R_crash_98 rfl (lv_at hl 1 rfl) ?_
      refine lv_iconst (v := (nI 0)) hx hb d_R_crash_99 (by decide) ?_
      obtain ⟨hin, h⟩ := ga_some h
      refine va_zast hx hb hK hP hD hS 6 1 rfl rfl hin d_R_crash_100 (fun H locs hP hD hS => ?_)
      have hP : va_P D clA (w_R cI cZ h_p0 h_p0_m h_p0_d h_p0_fresh h_p0_young h_p0_dropped h_p0_released h_p0_owed h_p0_counted h_p0_inMemory h_p0_onDisk h_p0_thn mem dsk fresh young dropped (upd released x1.toNatClampNeg (vp_nar .boolean (nI 0))) owed counted inMemory onDisk thn moved) H := hP
      have hD : va_D A (w_R cI cZ h_p0 h_p0_m h_p0_d h_p0_fresh h_p0_young h_p0_dropped h_p0_released h_p0_owed h_p0_counted h_p0_inMemory h_p0_onDisk h_p0_thn mem dsk fresh young dropped (upd released x1.toNatClampNeg (vp_nar .boolean (nI 0))) owed counted inMemory onDisk thn moved) := hD
      refine lv_aload_n hx hb d_R_crash_101 rfl (lv_at hl 0 rfl) ?_
      refine va_get (D := D) (ci := 2) (v := .ref h_p0_owed) (C := R_R) (T := F_R) (N := 12) hx hb ht in_R hown hK hP 0 rfl rfl 6 (by decide) (ht _ f_R_29) (fun _ h9 => h9) rfl d_R_crash_102 ?_
      refine lv_iload_n hx hb d_R_crash_105 rfl (lv_at hl 1 rfl) ?_
      refine lv_iconst (v := (nI 0)) hx hb d_R_crash_106 (by decide) ?_
      obtain ⟨hin, h⟩ := ga_some h
      refine va_iast hx hb hK hP hD hS 7 0 rfl rfl hin d_R_crash_107 (fun H locs hP hD hS => ?_)
      have hP : va_P D clA (w_R cI cZ h_p0 h_p0_m h_p0_d h_p0_fresh h_p0_young h_p0_dropped h_p0_released h_p0_owed h_p0_counted h_p0_inMemory h_p0_onDisk h_p0_thn mem dsk fresh young dropped (upd released x1.toNatClampNeg (vp_nar .boolean (nI 0))) (upd owed x1.toNatClampNeg (nI 0)) counted inMemory onDisk thn moved) H := hP
      have hD : va_D A (w_R cI cZ h_p0 h_p0_m h_p0_d h_p0_fresh h_p0_young h_p0_dropped h_p0_released h_p0_owed h_p0_counted h_p0_inMemory h_p0_onDisk h_p0_thn mem dsk fresh young dropped (upd released x1.toNatClampNeg (vp_nar .boolean (nI 0))) (upd owed x1.toNatClampNeg (nI 0)) counted inMemory onDisk thn moved) := hD
      refine lv_iinc (k := 1) (v := (x1 + (nI 1))) (lv' := [(1, .int (x1 + (nI 1))), (0, .ref h_p0)]) hx hb d_R_crash_108 hl rfl rfl (by decide) rfl (fun ls hl => ?_)
      refine lv_goto hx hb d_R_crash_111 rfl ?_
      exact ih (x1 + (nI 1)) young dropped mem fresh (upd released x1.toNatClampNeg (vp_nar .boolean (nI 0))) (upd owed x1.toNatClampNeg (nI 0)) h H locs ls (lv_sub hl [1, 0] rfl) hP hD hS
set_option maxHeartbeats 4000000 in
set_option maxRecDepth 100000 in
theorem w_R_crash_66 {p : Program} {l : Launch} {e : Env} {s : State} {m : MethodId} {args : Array Value} {below : List Frame} {meth : Method} {c : Code} {D : va_G} {cI cZ : ClassId} {A : Nat → Prop} (h_p0 h_p0_m h_p0_d h_p0_fresh h_p0_young h_p0_dropped h_p0_released h_p0_owed h_p0_counted h_p0_inMemory h_p0_onDisk h_p0_thn : Nat) (F : Nat) (dsk : (Nat → Int32)) (counted : (Nat → Int32)) (inMemory : (Nat → Int32)) (onDisk : (Nat → Int32)) (thn : (Nat → Int32)) (moved : Int32) (young' : (Nat → Int32)) (dropped' : (Nat → Int32)) (mem' : (Nat → Int32)) (fresh' : (Nat → Int32)) (released' : (Nat → Int32)) (owed' : (Nat → Int32)) (r : Int32) (cx : cx_ok p s m args meth c b_R_crash 2 o_R_crash "OrderedVolumeModel" (some .boolean) D cI cZ A) : ∀ (n : Nat) (x1 : Int32) (young : (Nat → Int32)) (dropped : (Nat → Int32)) (mem : (Nat → Int32)) (fresh : (Nat → Int32)) (released : (Nat → Int32)) (owed : (Nat → Int32)), s_R_crash_66 F dsk moved n x1 young dropped mem fresh released owed = some (r, young', dropped', mem', fresh', released', owed') → wk_G p l e rm_R_crash s m args below meth c (sc_Qi below args s D cI cZ A (w_R cI cZ h_p0 h_p0_m h_p0_d h_p0_fresh h_p0_young h_p0_dropped h_p0_released h_p0_owed h_p0_counted h_p0_inMemory h_p0_onDisk h_p0_thn (mem') dsk (fresh') (young') (dropped') (released') (owed') counted inMemory onDisk thn moved) r) D A 2 66 [] [(0, .ref h_p0), (1, .int x1)] (w_R cI cZ h_p0 h_p0_m h_p0_d h_p0_fresh h_p0_young h_p0_dropped h_p0_released h_p0_owed h_p0_counted h_p0_inMemory h_p0_onDisk h_p0_thn mem dsk fresh young dropped released owed counted inMemory onDisk thn moved) := by
  obtain ⟨cf, hr, hlk, hK, hN, hA⟩ := cx
  have hx := cf.1
  have hb := cf.2.1
  have hown := cf.2.2.2.1
  have ht : ∀ w ∈ wA, w.before args s = true := fun w h => cf.2.2.2.2 w (List.mem_cons_of_mem _ h)
  intro n
  induction n with
  | zero => intro x1 young dropped mem fresh released owed h; cases (show (none : Option (Int32 × (Nat → Int32) × (Nat → Int32) × (Nat → Int32) × (Nat → Int32) × (Nat → Int32) × (Nat → Int32))) = some _ from h)
  | succ n ih =>
    intro x1 young dropped mem fresh released owed h H locs ls hl hP hD hS
    unfold s_R_crash_66 at h
    refine lv_iload_n hx hb d_R_crash_66 rfl (lv_at hl 1 rfl) ?_
    refine lv_sipush (v := (nI 288)) hx hb d_R_crash_67 (by decide) ?_
    refine lv_icmp_ge hx hb d_R_crash_70 rfl (fun hc => ?_) (fun hc => ?_)
    · rw [if_pos hc] at h
      refine lv_iconst (v := (nI 0)) hx hb d_R_crash_86 (by decide) ?_
      refine lv_istore_n (lv' := [(1, .int (nI 0)), (0, .ref h_p0)]) hx hb d_R_crash_87 rfl hl (by decide) rfl (fun ls hl => ?_)
      exact w_R_crash_88 h_p0 h_p0_m h_p0_d h_p0_fresh h_p0_young h_p0_dropped h_p0_released h_p0_owed h_p0_counted h_p0_inMemory h_p0_onDisk h_p0_thn F dsk counted inMemory onDisk thn moved young' dropped' mem' fresh' released' owed' r ⟨cf, hr, hlk, hK, hN, hA⟩ F (nI 0) young dropped mem fresh released owed h H locs ls (lv_sub hl [1, 0] rfl) hP hD hS
    · rw [if_neg hc] at h
      refine lv_aload_n hx hb d_R_crash_73 rfl (lv_at hl 0 rfl) ?_
      refine va_get (D := D) (ci := 2) (v := .ref h_p0_young) (C := R_R) (T := F_R) (N := 12) hx hb ht in_R hown hK hP 0 rfl rfl 3 (by decide) (ht _ f_R_20) (fun _ h9 => h9) rfl d_R_crash_74 ?_
      refine lv_iload_n hx hb d_R_crash_77 rfl (lv_at hl 1 rfl) ?_
      refine lv_iconst (v := (nI 0)) hx hb d_R_crash_78 (by decide) ?_
      obtain ⟨hin, h⟩ := ga_some h
      refine va_zast hx hb hK hP hD hS 4 1 rfl rfl hin d_R_crash_79 (fun H locs hP hD hS => ?_)
      have hP : va_P D clA (w_R cI cZ h_p0 h_p0_m h_p0_d h_p0_fresh h_p0_young h_p0_dropped h_p0_released h_p0_owed h_p0_counted h_p0_inMemory h_p0_onDisk h_p0_thn mem dsk fresh (upd young x1.toNatClampNeg (vp_nar .boolean (nI 0))) dropped released owed counted inMemory onDisk thn moved) H := hP
      have hD : va_D A (w_R cI cZ h_p0 h_p0_m h_p0_d h_p0_fresh h_p0_young h_p0_dropped h_p0_released h_p0_owed h_p0_counted h_p0_inMemory h_p0_onDisk h_p0_thn mem dsk fresh (upd young x1.toNatClampNeg (vp_nar .boolean (nI 0))) dropped released owed counted inMemory onDisk thn moved) := hD
      refine lv_iinc (k := 1) (v := (x1 + (nI 1))) (lv' := [(1, .int (x1 + (nI 1))), (0, .ref h_p0)]) hx hb d_R_crash_80 hl rfl rfl (by decide) rfl (fun ls hl => ?_)
      refine lv_goto hx hb d_R_crash_83 rfl ?_
      exact ih (x1 + (nI 1)) (upd young x1.toNatClampNeg (vp_nar .boolean (nI 0))) dropped mem fresh released owed h H locs ls (lv_sub hl [1, 0] rfl) hP hD hS
set_option maxHeartbeats 4000000 in
set_option maxRecDepth 100000 in
theorem w_R_crash_38 {p : Program} {l : Launch} {e : Env} {s : State} {m : MethodId} {args : Array Value} {below : List Frame} {meth : Method} {c : Code} {D : va_G} {cI cZ : ClassId} {A : Nat → Prop} (h_p0 h_p0_m h_p0_d h_p0_fresh h_p0_young h_p0_dropped h_p0_released h_p0_owed h_p0_counted h_p0_inMemory h_p0_onDisk h_p0_thn : Nat) (F : Nat) (dsk : (Nat → Int32)) (counted : (Nat → Int32)) (inMemory : (Nat → Int32)) (onDisk : (Nat → Int32)) (thn : (Nat → Int32)) (moved : Int32) (young' : (Nat → Int32)) (dropped' : (Nat → Int32)) (mem' : (Nat → Int32)) (fresh' : (Nat → Int32)) (released' : (Nat → Int32)) (owed' : (Nat → Int32)) (r : Int32) (cx : cx_ok p s m args meth c b_R_crash 2 o_R_crash "OrderedVolumeModel" (some .boolean) D cI cZ A) : ∀ (n : Nat) (x1 : Int32) (young : (Nat → Int32)) (dropped : (Nat → Int32)) (mem : (Nat → Int32)) (fresh : (Nat → Int32)) (released : (Nat → Int32)) (owed : (Nat → Int32)), s_R_crash_38 F dsk moved n x1 young dropped mem fresh released owed = some (r, young', dropped', mem', fresh', released', owed') → wk_G p l e rm_R_crash s m args below meth c (sc_Qi below args s D cI cZ A (w_R cI cZ h_p0 h_p0_m h_p0_d h_p0_fresh h_p0_young h_p0_dropped h_p0_released h_p0_owed h_p0_counted h_p0_inMemory h_p0_onDisk h_p0_thn (mem') dsk (fresh') (young') (dropped') (released') (owed') counted inMemory onDisk thn moved) r) D A 2 38 [] [(0, .ref h_p0), (1, .int x1)] (w_R cI cZ h_p0 h_p0_m h_p0_d h_p0_fresh h_p0_young h_p0_dropped h_p0_released h_p0_owed h_p0_counted h_p0_inMemory h_p0_onDisk h_p0_thn mem dsk fresh young dropped released owed counted inMemory onDisk thn moved) := by
  obtain ⟨cf, hr, hlk, hK, hN, hA⟩ := cx
  have hx := cf.1
  have hb := cf.2.1
  have hown := cf.2.2.2.1
  have ht : ∀ w ∈ wA, w.before args s = true := fun w h => cf.2.2.2.2 w (List.mem_cons_of_mem _ h)
  intro n
  induction n with
  | zero => intro x1 young dropped mem fresh released owed h; cases (show (none : Option (Int32 × (Nat → Int32) × (Nat → Int32) × (Nat → Int32) × (Nat → Int32) × (Nat → Int32) × (Nat → Int32))) = some _ from h)
  | succ n ih =>
    intro x1 young dropped mem fresh released owed h H locs ls hl hP hD hS
    unfold s_R_crash_38 at h
    refine lv_iload_n hx hb d_R_crash_38 rfl (lv_at hl 1 rfl) ?_
    refine lv_bipush (v := (nI 36)) hx hb d_R_crash_39 (by decide) ?_
    refine lv_icmp_ge hx hb d_R_crash_41 rfl (fun hc => ?_) (fun hc => ?_)
    · rw [if_pos hc] at h
      refine lv_iconst (v := (nI 0)) hx hb d_R_crash_64 (by decide) ?_
      refine lv_istore_n (lv' := [(1, .int (nI 0)), (0, .ref h_p0)]) hx hb d_R_crash_65 rfl hl (by decide) rfl (fun ls hl => ?_)
      exact w_R_crash_66 h_p0 h_p0_m h_p0_d h_p0_fresh h_p0_young h_p0_dropped h_p0_released h_p0_owed h_p0_counted h_p0_inMemory h_p0_onDisk h_p0_thn F dsk counted inMemory onDisk thn moved young' dropped' mem' fresh' released' owed' r ⟨cf, hr, hlk, hK, hN, hA⟩ F (nI 0) young dropped mem fresh released owed h H locs ls (lv_sub hl [1, 0] rfl) hP hD hS
    · rw [if_neg hc] at h
      refine lv_aload_n hx hb d_R_crash_44 rfl (lv_at hl 0 rfl) ?_
      refine va_get (D := D) (ci := 2) (v := .ref h_p0_fresh) (C := R_R) (T := F_R) (N := 12) hx hb ht in_R hown hK hP 0 rfl rfl 2 (by decide) (ht _ f_R_16) (fun _ h9 => h9) rfl d_R_crash_45 ?_
      refine lv_iload_n hx hb d_R_crash_48 rfl (lv_at hl 1 rfl) ?_
      refine lv_iconst (v := (nI 0)) hx hb d_R_crash_49 (by decide) ?_
      obtain ⟨hin, h⟩ := ga_some h
      refine va_zast hx hb hK hP hD hS 3 1 rfl rfl hin d_R_crash_50 (fun H locs hP hD hS => ?_)
      have hP : va_P D clA (w_R cI cZ h_p0 h_p0_m h_p0_d h_p0_fresh h_p0_young h_p0_dropped h_p0_released h_p0_owed h_p0_counted h_p0_inMemory h_p0_onDisk h_p0_thn mem dsk (upd fresh x1.toNatClampNeg (vp_nar .boolean (nI 0))) young dropped released owed counted inMemory onDisk thn moved) H := hP
      have hD : va_D A (w_R cI cZ h_p0 h_p0_m h_p0_d h_p0_fresh h_p0_young h_p0_dropped h_p0_released h_p0_owed h_p0_counted h_p0_inMemory h_p0_onDisk h_p0_thn mem dsk (upd fresh x1.toNatClampNeg (vp_nar .boolean (nI 0))) young dropped released owed counted inMemory onDisk thn moved) := hD
      refine lv_aload_n hx hb d_R_crash_51 rfl (lv_at hl 0 rfl) ?_
      refine va_get (D := D) (ci := 2) (v := .ref h_p0_dropped) (C := R_R) (T := F_R) (N := 12) hx hb ht in_R hown hK hP 0 rfl rfl 4 (by decide) (ht _ f_R_23) (fun _ h9 => h9) rfl d_R_crash_52 ?_
      refine lv_iload_n hx hb d_R_crash_55 rfl (lv_at hl 1 rfl) ?_
      refine lv_iconst (v := (nI 0)) hx hb d_R_crash_56 (by decide) ?_
      obtain ⟨hin, h⟩ := ga_some h
      refine va_iast hx hb hK hP hD hS 5 0 rfl rfl hin d_R_crash_57 (fun H locs hP hD hS => ?_)
      have hP : va_P D clA (w_R cI cZ h_p0 h_p0_m h_p0_d h_p0_fresh h_p0_young h_p0_dropped h_p0_released h_p0_owed h_p0_counted h_p0_inMemory h_p0_onDisk h_p0_thn mem dsk (upd fresh x1.toNatClampNeg (vp_nar .boolean (nI 0))) young (upd dropped x1.toNatClampNeg (nI 0)) released owed counted inMemory onDisk thn moved) H := hP
      have hD : va_D A (w_R cI cZ h_p0 h_p0_m h_p0_d h_p0_fresh h_p0_young h_p0_dropped h_p0_released h_p0_owed h_p0_counted h_p0_inMemory h_p0_onDisk h_p0_thn mem dsk (upd fresh x1.toNatClampNeg (vp_nar .boolean (nI 0))) young (upd dropped x1.toNatClampNeg (nI 0)) released owed counted inMemory onDisk thn moved) := hD
      refine lv_iinc (k := 1) (v := (x1 + (nI 1))) (lv' := [(1, .int (x1 + (nI 1))), (0, .ref h_p0)]) hx hb d_R_crash_58 hl rfl rfl (by decide) rfl (fun ls hl => ?_)
      refine lv_goto hx hb d_R_crash_61 rfl ?_
      exact ih (x1 + (nI 1)) young (upd dropped x1.toNatClampNeg (nI 0)) mem (upd fresh x1.toNatClampNeg (vp_nar .boolean (nI 0))) released owed h H locs ls (lv_sub hl [1, 0] rfl) hP hD hS
set_option maxHeartbeats 4000000 in
set_option maxRecDepth 100000 in
theorem w_R_crash_11 {p : Program} {l : Launch} {e : Env} {s : State} {m : MethodId} {args : Array Value} {below : List Frame} {meth : Method} {c : Code} {D : va_G} {cI cZ : ClassId} {A : Nat → Prop} (h_p0 h_p0_m h_p0_d h_p0_fresh h_p0_young h_p0_dropped h_p0_released h_p0_owed h_p0_counted h_p0_inMemory h_p0_onDisk h_p0_thn : Nat) (F : Nat) (dsk : (Nat → Int32)) (counted : (Nat → Int32)) (inMemory : (Nat → Int32)) (onDisk : (Nat → Int32)) (thn : (Nat → Int32)) (moved : Int32) (young' : (Nat → Int32)) (dropped' : (Nat → Int32)) (mem' : (Nat → Int32)) (fresh' : (Nat → Int32)) (released' : (Nat → Int32)) (owed' : (Nat → Int32)) (r : Int32) (cx : cx_ok p s m args meth c b_R_crash 2 o_R_crash "OrderedVolumeModel" (some .boolean) D cI cZ A) : ∀ (n : Nat) (x1 : Int32) (young : (Nat → Int32)) (dropped : (Nat → Int32)) (mem : (Nat → Int32)) (fresh : (Nat → Int32)) (released : (Nat → Int32)) (owed : (Nat → Int32)), s_R_crash_11 F dsk moved n x1 young dropped mem fresh released owed = some (r, young', dropped', mem', fresh', released', owed') → wk_G p l e rm_R_crash s m args below meth c (sc_Qi below args s D cI cZ A (w_R cI cZ h_p0 h_p0_m h_p0_d h_p0_fresh h_p0_young h_p0_dropped h_p0_released h_p0_owed h_p0_counted h_p0_inMemory h_p0_onDisk h_p0_thn (mem') dsk (fresh') (young') (dropped') (released') (owed') counted inMemory onDisk thn moved) r) D A 2 11 [] [(0, .ref h_p0), (1, .int x1)] (w_R cI cZ h_p0 h_p0_m h_p0_d h_p0_fresh h_p0_young h_p0_dropped h_p0_released h_p0_owed h_p0_counted h_p0_inMemory h_p0_onDisk h_p0_thn mem dsk fresh young dropped released owed counted inMemory onDisk thn moved) := by
  obtain ⟨cf, hr, hlk, hK, hN, hA⟩ := cx
  have hx := cf.1
  have hb := cf.2.1
  have hown := cf.2.2.2.1
  have ht : ∀ w ∈ wA, w.before args s = true := fun w h => cf.2.2.2.2 w (List.mem_cons_of_mem _ h)
  intro n
  induction n with
  | zero => intro x1 young dropped mem fresh released owed h; cases (show (none : Option (Int32 × (Nat → Int32) × (Nat → Int32) × (Nat → Int32) × (Nat → Int32) × (Nat → Int32) × (Nat → Int32))) = some _ from h)
  | succ n ih =>
    intro x1 young dropped mem fresh released owed h H locs ls hl hP hD hS
    unfold s_R_crash_11 at h
    refine lv_iload_n hx hb d_R_crash_11 rfl (lv_at hl 1 rfl) ?_
    refine lv_sipush (v := (nI 1080)) hx hb d_R_crash_12 (by decide) ?_
    refine lv_icmp_ge hx hb d_R_crash_15 rfl (fun hc => ?_) (fun hc => ?_)
    · rw [if_pos hc] at h
      refine lv_iconst (v := (nI 0)) hx hb d_R_crash_36 (by decide) ?_
      refine lv_istore_n (lv' := [(1, .int (nI 0)), (0, .ref h_p0)]) hx hb d_R_crash_37 rfl hl (by decide) rfl (fun ls hl => ?_)
      exact w_R_crash_38 h_p0 h_p0_m h_p0_d h_p0_fresh h_p0_young h_p0_dropped h_p0_released h_p0_owed h_p0_counted h_p0_inMemory h_p0_onDisk h_p0_thn F dsk counted inMemory onDisk thn moved young' dropped' mem' fresh' released' owed' r ⟨cf, hr, hlk, hK, hN, hA⟩ F (nI 0) young dropped mem fresh released owed h H locs ls (lv_sub hl [1, 0] rfl) hP hD hS
    · rw [if_neg hc] at h
      refine lv_aload_n hx hb d_R_crash_18 rfl (lv_at hl 0 rfl) ?_
      refine va_get (D := D) (ci := 2) (v := .ref h_p0_m) (C := R_R) (T := F_R) (N := 12) hx hb ht in_R hown hK hP 0 rfl rfl 0 (by decide) (ht _ f_R_7) (fun _ h9 => h9) rfl d_R_crash_19 ?_
      refine lv_iload_n hx hb d_R_crash_22 rfl (lv_at hl 1 rfl) ?_
      refine lv_aload_n hx hb d_R_crash_23 rfl (lv_at hl 0 rfl) ?_
      refine va_get (D := D) (ci := 2) (v := .ref h_p0_d) (C := R_R) (T := F_R) (N := 12) hx hb ht in_R hown hK hP 0 rfl rfl 1 (by decide) (ht _ f_R_13) (fun _ h9 => h9) rfl d_R_crash_24 ?_
      refine lv_iload_n hx hb d_R_crash_27 rfl (lv_at hl 1 rfl) ?_
      obtain ⟨hin, h⟩ := gr_some h
      refine va_iald hx hb hK hP 2 0 rfl rfl hin d_R_crash_28 ?_
      generalize dsk x1.toNatClampNeg = v28 at h ⊢
      obtain ⟨hin, h⟩ := ga_some h
      refine va_iast hx hb hK hP hD hS 1 0 rfl rfl hin d_R_crash_29 (fun H locs hP hD hS => ?_)
      have hP : va_P D clA (w_R cI cZ h_p0 h_p0_m h_p0_d h_p0_fresh h_p0_young h_p0_dropped h_p0_released h_p0_owed h_p0_counted h_p0_inMemory h_p0_onDisk h_p0_thn (upd mem x1.toNatClampNeg v28) dsk fresh young dropped released owed counted inMemory onDisk thn moved) H := hP
      have hD : va_D A (w_R cI cZ h_p0 h_p0_m h_p0_d h_p0_fresh h_p0_young h_p0_dropped h_p0_released h_p0_owed h_p0_counted h_p0_inMemory h_p0_onDisk h_p0_thn (upd mem x1.toNatClampNeg v28) dsk fresh young dropped released owed counted inMemory onDisk thn moved) := hD
      refine lv_iinc (k := 1) (v := (x1 + (nI 1))) (lv' := [(1, .int (x1 + (nI 1))), (0, .ref h_p0)]) hx hb d_R_crash_30 hl rfl rfl (by decide) rfl (fun ls hl => ?_)
      refine lv_goto hx hb d_R_crash_33 rfl ?_
      exact ih (x1 + (nI 1)) young dropped (upd mem x1.toNatClampNeg v28) fresh released owed h H locs ls (lv_sub hl [1, 0] rfl) hP hD hS
set_option maxHeartbeats 4000000 in
set_option maxRecDepth 100000 in
theorem c_R_crash (l : Launch) (D : va_G) (cI cZ : ClassId) (h_p0 h_p0_m h_p0_d h_p0_fresh h_p0_young h_p0_dropped h_p0_released h_p0_owed h_p0_counted h_p0_inMemory h_p0_onDisk h_p0_thn : Nat) (F : Nat) (mem : (Nat → Int32)) (dsk : (Nat → Int32)) (fresh : (Nat → Int32)) (young : (Nat → Int32)) (dropped : (Nat → Int32)) (released : (Nat → Int32)) (owed : (Nat → Int32)) (counted : (Nat → Int32)) (inMemory : (Nat → Int32)) (onDisk : (Nat → Int32)) (thn : (Nat → Int32)) (moved : Int32) (young' : (Nat → Int32)) (dropped' : (Nat → Int32)) (mem' : (Nat → Int32)) (fresh' : (Nat → Int32)) (released' : (Nat → Int32)) (owed' : (Nat → Int32)) (r : Int32) (h : s_R_crash F dsk moved young dropped mem fresh released owed = some (r, young', dropped', mem', fresh', released', owed')) : sc_i l y_R_crash (o_R_crash :: wA) rm_R_crash D cI cZ [.ref h_p0] (w_R cI cZ h_p0 h_p0_m h_p0_d h_p0_fresh h_p0_young h_p0_dropped h_p0_released h_p0_owed h_p0_counted h_p0_inMemory h_p0_onDisk h_p0_thn mem dsk fresh young dropped released owed counted inMemory onDisk thn moved) (w_R cI cZ h_p0 h_p0_m h_p0_d h_p0_fresh h_p0_young h_p0_dropped h_p0_released h_p0_owed h_p0_counted h_p0_inMemory h_p0_onDisk h_p0_thn (mem') dsk (fresh') (young') (dropped') (released') (owed') counted inMemory onDisk thn moved) r := by
  refine sc_i_of (cc := b_R_crash) (maxL := 2) (ret := (some .boolean)) (by decide) rfl (Nat.le_of_ble_eq_true rfl) ?_
  intro p e s m below meth c A cf hr hlk hK hN hA H locs ls hl hP hD hS
  have hx := cf.1
  have hb := cf.2.1
  have hown := cf.2.2.2.1
  have ht : ∀ w ∈ wA, w.before _ s = true := fun w h => cf.2.2.2.2 w (List.mem_cons_of_mem _ h)
  unfold s_R_crash at h
  have hl : lv_has ls 2 [(0, .ref h_p0)] := hl
  refine lv_aload_n hx hb d_R_crash_0 rfl (lv_at hl 0 rfl) ?_
  refine va_get (D := D) (ci := 2) (v := .int moved) (C := R_R) (T := F_R) (N := 12) hx hb ht in_R hown hK hP 0 rfl rfl 11 (by decide) (ht _ f_R_141) (fun _ h9 => h9) rfl d_R_crash_1 ?_
  refine lv_if_eq hx hb d_R_crash_4 rfl (fun hc => ?_) (fun hc => ?_)
  · rw [if_pos hc] at h
    refine lv_iconst (v := (nI 0)) hx hb d_R_crash_9 (by decide) ?_
    refine lv_istore_n (lv' := [(1, .int (nI 0)), (0, .ref h_p0)]) hx hb d_R_crash_10 rfl hl (by decide) rfl (fun ls hl => ?_)
    exact w_R_crash_11 h_p0 h_p0_m h_p0_d h_p0_fresh h_p0_young h_p0_dropped h_p0_released h_p0_owed h_p0_counted h_p0_inMemory h_p0_onDisk h_p0_thn F dsk counted inMemory onDisk thn moved young' dropped' mem' fresh' released' owed' r ⟨cf, hr, hlk, hK, hN, hA⟩ F (nI 0) young dropped mem fresh released owed h H locs ls (lv_sub hl [1, 0] rfl) hP hD hS
  · rw [if_neg hc] at h
    refine lv_iconst (v := (nI 0)) hx hb d_R_crash_7 (by decide) ?_
    have hz : ((nI 0) : Int32) = 0 ∨ ((nI 0) : Int32) = 1 := by decide
    cases h
    exact sc_zret cf hr hlk hz hK hP hD hS d_R_crash_8
set_option maxHeartbeats 4000000 in
set_option maxRecDepth 100000 in
theorem w_R_isName_16 {p : Program} {l : Launch} {e : Env} {s : State} {m : MethodId} {args : Array Value} {below : List Frame} {meth : Method} {c : Code} {D : va_G} {cI cZ : ClassId} {A : Nat → Prop} (z : Nat) (r : Int32) (cx : cx_ok p s m args meth c b_R_isName 1 o_R_isName "OrderedVolumeModel" (some .boolean) D cI cZ A) : s_R_isName_16 = some r → wk_G p l e rm_R_isName s m args below meth c (sc_Qi below args s D cI cZ A [] r) D A 1 16 [] [] [] := by
  obtain ⟨cf, hr, hlk, hK, hN, hA⟩ := cx
  have hx := cf.1
  have hb := cf.2.1
  have hown := cf.2.2.2.1
  have ht : ∀ w ∈ wA, w.before args s = true := fun w h => cf.2.2.2.2 w (List.mem_cons_of_mem _ h)
  intro  h H locs ls hl hP hD hS
  unfold s_R_isName_16 at h
  refine lv_iconst (v := (nI 0)) hx hb d_R_isName_16 (by decide) ?_
  have hz : ((nI 0) : Int32) = 0 ∨ ((nI 0) : Int32) = 1 := by decide
  cases h
  exact sc_zret cf hr hlk hz hK hP hD hS d_R_isName_17
set_option maxHeartbeats 4000000 in
set_option maxRecDepth 100000 in
theorem c_R_isName (l : Launch) (D : va_G) (cI cZ : ClassId) (z : Nat) (x0 : Int32) (r : Int32) (h : s_R_isName x0 = some r) : sc_i l y_R_isName (o_R_isName :: wA) rm_R_isName D cI cZ [.int x0] [] [] r := by
  refine sc_i_of (cc := b_R_isName) (maxL := 1) (ret := (some .boolean)) (by decide) rfl (Nat.le_of_ble_eq_true rfl) ?_
  intro p e s m below meth c A cf hr hlk hK hN hA H locs ls hl hP hD hS
  have hx := cf.1
  have hb := cf.2.1
  have hown := cf.2.2.2.1
  have ht : ∀ w ∈ wA, w.before _ s = true := fun w h => cf.2.2.2.2 w (List.mem_cons_of_mem _ h)
  unfold s_R_isName at h
  have hl : lv_has ls 1 [(0, .int x0)] := hl
  refine lv_iload_n hx hb d_R_isName_0 rfl (lv_at hl 0 rfl) ?_
  refine lv_iconst (v := (nI 1)) hx hb d_R_isName_1 (by decide) ?_
  refine lv_icmp_lt hx hb d_R_isName_2 rfl (fun hc => ?_) (fun hc => ?_)
  · rw [if_pos hc] at h
    exact w_R_isName_16 0 r ⟨cf, hr, hlk, hK, hN, hA⟩ h H locs ls (lv_sub hl [] rfl) hP hD hS
  · rw [if_neg hc] at h
    refine lv_iload_n hx hb d_R_isName_5 rfl (lv_at hl 0 rfl) ?_
    refine lv_sipush (v := (nI 999)) hx hb d_R_isName_6 (by decide) ?_
    refine lv_icmp_gt hx hb d_R_isName_9 rfl (fun hc => ?_) (fun hc => ?_)
    · rw [if_pos hc] at h
      exact w_R_isName_16 0 r ⟨cf, hr, hlk, hK, hN, hA⟩ h H locs ls (lv_sub hl [] rfl) hP hD hS
    · rw [if_neg hc] at h
      refine lv_iconst (v := (nI 1)) hx hb d_R_isName_12 (by decide) ?_
      refine lv_goto hx hb d_R_isName_13 rfl ?_
      have hz : ((nI 1) : Int32) = 0 ∨ ((nI 1) : Int32) = 1 := by decide
      cases h
      exact sc_zret cf hr hlk hz hK hP hD hS d_R_isName_17
set_option maxHeartbeats 4000000 in
set_option maxRecDepth 100000 in
theorem w_R_spread_inMemory_108 {p : Program} {l : Launch} {e : Env} {s : State} {m : MethodId} {args : Array Value} {below : List Frame} {meth : Method} {c : Code} {D : va_G} {cI cZ : ClassId} {A : Nat → Prop} (h_p0 h_p0_m h_p0_d h_p0_fresh h_p0_young h_p0_dropped h_p0_released h_p0_owed h_p0_counted h_p0_inMemory h_p0_onDisk h_p0_thn : Nat) (F : Nat) (mem : (Nat → Int32)) (dsk : (Nat → Int32)) (fresh : (Nat → Int32)) (young : (Nat → Int32)) (dropped : (Nat → Int32)) (released : (Nat → Int32)) (owed : (Nat → Int32)) (counted : (Nat → Int32)) (onDisk : (Nat → Int32)) (thn : (Nat → Int32)) (moved : Int32) (inMemory' : (Nat → Int32)) (k73 : Int32 → Int32 → Int32 → (Nat → Int32) → Option ((Nat → Int32))) (cx : cx_ok p s m args meth c b_R_spread 8 o_R_spread "OrderedVolumeModel" none D cI cZ A) (h73 : (∀ (x1 : Int32) (x5 : Int32) (x6 : Int32) (inMemory : (Nat → Int32)), k73 x1 x5 x6 inMemory = some inMemory' → wk_G p l e rm_R_spread s m args below meth c (sc_Qv below args s D cI cZ A (w_R cI cZ h_p0 h_p0_m h_p0_d h_p0_fresh h_p0_young h_p0_dropped h_p0_released h_p0_owed h_p0_counted h_p0_inMemory h_p0_onDisk h_p0_thn mem dsk fresh young dropped released owed counted (inMemory') onDisk thn moved)) D A 8 73 [] [(0, .ref h_p0), (3, .ref h_p0_inMemory), (1, .int x1), (5, .int x5), (6, .int x6)] (w_R cI cZ h_p0 h_p0_m h_p0_d h_p0_fresh h_p0_young h_p0_dropped h_p0_released h_p0_owed h_p0_counted h_p0_inMemory h_p0_onDisk h_p0_thn mem dsk fresh young dropped released owed counted inMemory onDisk thn moved))) : ∀ (x1 : Int32) (x5 : Int32) (x6 : Int32) (t0 : Int32) (inMemory : (Nat → Int32)), s_R_spread_inMemory_108 F mem dsk fresh k73 x1 x5 x6 t0 inMemory = some inMemory' → wk_G p l e rm_R_spread s m args below meth c (sc_Qv below args s D cI cZ A (w_R cI cZ h_p0 h_p0_m h_p0_d h_p0_fresh h_p0_young h_p0_dropped h_p0_released h_p0_owed h_p0_counted h_p0_inMemory h_p0_onDisk h_p0_thn mem dsk fresh young dropped released owed counted (inMemory') onDisk thn moved)) D A 8 108 [.int t0] [(0, .ref h_p0), (3, .ref h_p0_inMemory), (1, .int x1), (5, .int x5), (6, .int x6)] (w_R cI cZ h_p0 h_p0_m h_p0_d h_p0_fresh h_p0_young h_p0_dropped h_p0_released h_p0_owed h_p0_counted h_p0_inMemory h_p0_onDisk h_p0_thn mem dsk fresh young dropped released owed counted inMemory onDisk thn moved) := by
  obtain ⟨cf, hr, hlk, hK, hN, hA⟩ := cx
  have hx := cf.1
  have hb := cf.2.1
  have hown := cf.2.2.2.1
  have ht : ∀ w ∈ wA, w.before args s = true := fun w h => cf.2.2.2.2 w (List.mem_cons_of_mem _ h)
  intro x1 x5 x6 t0 inMemory h H locs ls hl hP hD hS
  unfold s_R_spread_inMemory_108 at h
  refine lv_istore (lv' := [(7, .int t0), (0, .ref h_p0), (3, .ref h_p0_inMemory), (1, .int x1), (5, .int x5), (6, .int x6)]) hx hb d_R_spread_108 hl (by decide) rfl (fun ls hl => ?_)
  refine lv_iload hx hb d_R_spread_110 (lv_at hl 0 rfl) ?_
  refine lv_if_eq hx hb d_R_spread_112 rfl (fun hc => ?_) (fun hc => ?_)
  · rw [if_pos hc] at h
    refine lv_iinc (k := 5) (v := (x6 + (nI 1))) (lv' := [(6, .int (x6 + (nI 1))), (7, .int t0), (0, .ref h_p0), (3, .ref h_p0_inMemory), (1, .int x1), (5, .int x5)]) hx hb d_R_spread_123 hl rfl rfl (by decide) rfl (fun ls hl => ?_)
    refine lv_goto hx hb d_R_spread_126 rfl ?_
    exact h73 x1 x5 (x6 + (nI 1)) inMemory h H locs ls (lv_sub hl [2, 3, 4, 5, 0] rfl) hP hD hS
  · rw [if_neg hc] at h
    refine lv_aload_n hx hb d_R_spread_115 rfl (lv_at hl 2 rfl) ?_
    refine lv_iload hx hb d_R_spread_116 (lv_at hl 0 rfl) ?_
    refine lv_bipush (v := (nI 32)) hx hb d_R_spread_118 (by decide) ?_
    refine lv_irem hx hb d_R_spread_120 (by decide) ?_
    refine lv_iconst (v := (nI 1)) hx hb d_R_spread_121 (by decide) ?_
    obtain ⟨hin, h⟩ := ga_some h
    refine va_zast hx hb hK hP hD hS 9 1 rfl rfl hin d_R_spread_122 (fun H locs hP hD hS => ?_)
    have hP : va_P D clA (w_R cI cZ h_p0 h_p0_m h_p0_d h_p0_fresh h_p0_young h_p0_dropped h_p0_released h_p0_owed h_p0_counted h_p0_inMemory h_p0_onDisk h_p0_thn mem dsk fresh young dropped released owed counted (upd inMemory (t0 - t0 / (nI 32) * (nI 32)).toNatClampNeg (vp_nar .boolean (nI 1))) onDisk thn moved) H := hP
    have hD : va_D A (w_R cI cZ h_p0 h_p0_m h_p0_d h_p0_fresh h_p0_young h_p0_dropped h_p0_released h_p0_owed h_p0_counted h_p0_inMemory h_p0_onDisk h_p0_thn mem dsk fresh young dropped released owed counted (upd inMemory (t0 - t0 / (nI 32) * (nI 32)).toNatClampNeg (vp_nar .boolean (nI 1))) onDisk thn moved) := hD
    refine lv_iinc (k := 5) (v := (x6 + (nI 1))) (lv' := [(6, .int (x6 + (nI 1))), (7, .int t0), (0, .ref h_p0), (3, .ref h_p0_inMemory), (1, .int x1), (5, .int x5)]) hx hb d_R_spread_123 hl rfl rfl (by decide) rfl (fun ls hl => ?_)
    refine lv_goto hx hb d_R_spread_126 rfl ?_
    exact h73 x1 x5 (x6 + (nI 1)) (upd inMemory (t0 - t0 / (nI 32) * (nI 32)).toNatClampNeg (vp_nar .boolean (nI 1))) h H locs ls (lv_sub hl [2, 3, 4, 5, 0] rfl) hP hD hS
set_option maxHeartbeats 4000000 in
set_option maxRecDepth 100000 in
theorem w_R_spread_inMemory_73 {p : Program} {l : Launch} {e : Env} {s : State} {m : MethodId} {args : Array Value} {below : List Frame} {meth : Method} {c : Code} {D : va_G} {cI cZ : ClassId} {A : Nat → Prop} (h_p0 h_p0_m h_p0_d h_p0_fresh h_p0_young h_p0_dropped h_p0_released h_p0_owed h_p0_counted h_p0_inMemory h_p0_onDisk h_p0_thn : Nat) (F : Nat) (mem : (Nat → Int32)) (dsk : (Nat → Int32)) (fresh : (Nat → Int32)) (young : (Nat → Int32)) (dropped : (Nat → Int32)) (released : (Nat → Int32)) (owed : (Nat → Int32)) (counted : (Nat → Int32)) (onDisk : (Nat → Int32)) (thn : (Nat → Int32)) (moved : Int32) (inMemory' : (Nat → Int32)) (cx : cx_ok p s m args meth c b_R_spread 8 o_R_spread "OrderedVolumeModel" none D cI cZ A) : ∀ (n : Nat) (x1 : Int32) (x5 : Int32) (x6 : Int32) (inMemory : (Nat → Int32)), s_R_spread_inMemory_73 F mem dsk fresh n x1 x5 x6 inMemory = some inMemory' → wk_G p l e rm_R_spread s m args below meth c (sc_Qv below args s D cI cZ A (w_R cI cZ h_p0 h_p0_m h_p0_d h_p0_fresh h_p0_young h_p0_dropped h_p0_released h_p0_owed h_p0_counted h_p0_inMemory h_p0_onDisk h_p0_thn mem dsk fresh young dropped released owed counted (inMemory') onDisk thn moved)) D A 8 73 [] [(0, .ref h_p0), (3, .ref h_p0_inMemory), (1, .int x1), (5, .int x5), (6, .int x6)] (w_R cI cZ h_p0 h_p0_m h_p0_d h_p0_fresh h_p0_young h_p0_dropped h_p0_released h_p0_owed h_p0_counted h_p0_inMemory h_p0_onDisk h_p0_thn mem dsk fresh young dropped released owed counted inMemory onDisk thn moved) := by
  obtain ⟨cf, hr, hlk, hK, hN, hA⟩ := cx
  have hx := cf.1
  have hb := cf.2.1
  have hown := cf.2.2.2.1
  have ht : ∀ w ∈ wA, w.before args s = true := fun w h => cf.2.2.2.2 w (List.mem_cons_of_mem _ h)
  intro n
  induction n with
  | zero => intro x1 x5 x6 inMemory h; cases (show (none : Option ((Nat → Int32))) = some _ from h)
  | succ n ih =>
    intro x1 x5 x6 inMemory h H locs ls hl hP hD hS
    unfold s_R_spread_inMemory_73 at h
    refine lv_iload hx hb d_R_spread_73 (lv_at hl 4 rfl) ?_
    refine lv_bipush (v := (nI 8)) hx hb d_R_spread_75 (by decide) ?_
    refine lv_icmp_ge hx hb d_R_spread_77 rfl (fun hc => ?_) (fun hc => ?_)
    · rw [if_pos hc] at h
      cases h
      exact sc_vret cf hr hlk hK hP hD hS d_R_spread_129
    · rw [if_neg hc] at h
      refine lv_iload_n hx hb d_R_spread_80 rfl (lv_at hl 2 rfl) ?_
      refine lv_if_eq hx hb d_R_spread_81 rfl (fun hc => ?_) (fun hc => ?_)
      · rw [if_pos hc] at h
        refine lv_aload_n hx hb d_R_spread_95 rfl (lv_at hl 0 rfl) ?_
        refine va_get (D := D) (ci := 2) (v := .ref h_p0_m) (C := R_R) (T := F_R) (N := 12) hx hb ht in_R hown hK hP 0 rfl rfl 0 (by decide) (ht _ f_R_7) (fun _ h9 => h9) rfl d_R_spread_96 ?_
        refine lv_bipush (v := (nI 30)) hx hb d_R_spread_99 (by decide) ?_
        refine lv_iload hx hb d_R_spread_101 (lv_at hl 3 rfl) ?_
        refine lv_imul hx hb d_R_spread_103 ?_
        refine lv_iload hx hb d_R_spread_104 (lv_at hl 4 rfl) ?_
        refine lv_iadd hx hb d_R_spread_106 ?_
        obtain ⟨hin, h⟩ := gr_some h
        refine va_iald hx hb hK hP 1 0 rfl rfl hin d_R_spread_107 ?_
        generalize mem (((nI 30) * x5) + x6).toNatClampNeg = v107 at h ⊢
        exact w_R_spread_inMemory_108 h_p0 h_p0_m h_p0_d h_p0_fresh h_p0_young h_p0_dropped h_p0_released h_p0_owed h_p0_counted h_p0_inMemory h_p0_onDisk h_p0_thn F mem dsk fresh young dropped released owed counted onDisk thn moved inMemory' _ ⟨cf, hr, hlk, hK, hN, hA⟩ ih x1 x5 x6 v107 inMemory h H locs ls (lv_sub hl [0, 1, 2, 3, 4] rfl) hP hD hS
      · rw [if_neg hc] at h
        refine lv_aload_n hx hb d_R_spread_84 rfl (lv_at hl 0 rfl) ?_
        refine lv_iload hx hb d_R_spread_85 (lv_at hl 3 rfl) ?_
        refine lv_iload hx hb d_R_spread_87 (lv_at hl 4 rfl) ?_
        obtain ⟨r89, h89, h⟩ := bd_some h
        refine wk_Vi (As := [.int x5, .int x6]) (rest := []) (wc := (w_R cI cZ h_p0 h_p0_m h_p0_d h_p0_fresh h_p0_young h_p0_dropped h_p0_released h_p0_owed h_p0_counted h_p0_inMemory h_p0_onDisk h_p0_thn mem dsk fresh young dropped released owed counted inMemory onDisk thn moved)) (w1 := (w_R cI cZ h_p0 h_p0_m h_p0_d h_p0_fresh h_p0_young h_p0_dropped h_p0_released h_p0_owed h_p0_counted h_p0_inMemory h_p0_onDisk h_p0_thn mem dsk fresh young dropped released owed counted inMemory onDisk thn moved)) (wr := []) (wz := (w_R cI cZ h_p0 h_p0_m h_p0_d h_p0_fresh h_p0_young h_p0_dropped h_p0_released h_p0_owed h_p0_counted h_p0_inMemory h_p0_onDisk h_p0_thn mem dsk fresh young dropped released owed counted inMemory onDisk thn moved)) cf hK hN hA (c_R_seen l D cI cZ h_p0 h_p0_m h_p0_d h_p0_fresh h_p0_young h_p0_dropped h_p0_released h_p0_owed h_p0_counted h_p0_inMemory h_p0_onDisk h_p0_thn mem dsk fresh young dropped released owed counted inMemory onDisk thn moved x5 x6 r89 h89) k_R_66 ⟨rfl, rfl, by decide, by decide⟩ 2 rfl rfl rfl hl hP hD hS [0, 1, 2, 3, 4, 5, 6, 7, 8, 9, 10, 11] [] [0, 1, 2, 3, 4, 5, 6, 7, 8, 9, 10, 11] rfl rfl rfl (by decide) rfl rfl rfl rfl rfl (Nat.le_of_ble_eq_true rfl) rfl d_R_spread_89 (fun H locs hP hD hS => ?_)
        refine lv_goto hx hb d_R_spread_92 rfl ?_
        exact w_R_spread_inMemory_108 h_p0 h_p0_m h_p0_d h_p0_fresh h_p0_young h_p0_dropped h_p0_released h_p0_owed h_p0_counted h_p0_inMemory h_p0_onDisk h_p0_thn F mem dsk fresh young dropped released owed counted onDisk thn moved inMemory' _ ⟨cf, hr, hlk, hK, hN, hA⟩ ih x1 x5 x6 r89 inMemory h H locs ls (lv_sub hl [0, 1, 2, 3, 4] rfl) hP hD hS
set_option maxHeartbeats 4000000 in
set_option maxRecDepth 100000 in
theorem w_R_spread_inMemory_56 {p : Program} {l : Launch} {e : Env} {s : State} {m : MethodId} {args : Array Value} {below : List Frame} {meth : Method} {c : Code} {D : va_G} {cI cZ : ClassId} {A : Nat → Prop} (h_p0 h_p0_m h_p0_d h_p0_fresh h_p0_young h_p0_dropped h_p0_released h_p0_owed h_p0_counted h_p0_inMemory h_p0_onDisk h_p0_thn : Nat) (F : Nat) (mem : (Nat → Int32)) (dsk : (Nat → Int32)) (fresh : (Nat → Int32)) (young : (Nat → Int32)) (dropped : (Nat → Int32)) (released : (Nat → Int32)) (owed : (Nat → Int32)) (counted : (Nat → Int32)) (onDisk : (Nat → Int32)) (thn : (Nat → Int32)) (moved : Int32) (inMemory' : (Nat → Int32)) (cx : cx_ok p s m args meth c b_R_spread 8 o_R_spread "OrderedVolumeModel" none D cI cZ A) : ∀ (x1 : Int32) (x4 : Int32) (t0 : Int32) (inMemory : (Nat → Int32)), s_R_spread_inMemory_56 F mem dsk fresh x1 x4 t0 inMemory = some inMemory' → wk_G p l e rm_R_spread s m args below meth c (sc_Qv below args s D cI cZ A (w_R cI cZ h_p0 h_p0_m h_p0_d h_p0_fresh h_p0_young h_p0_dropped h_p0_released h_p0_owed h_p0_counted h_p0_inMemory h_p0_onDisk h_p0_thn mem dsk fresh young dropped released owed counted (inMemory') onDisk thn moved)) D A 8 56 [.int t0] [(0, .ref h_p0), (3, .ref h_p0_inMemory), (1, .int x1), (4, .int x4)] (w_R cI cZ h_p0 h_p0_m h_p0_d h_p0_fresh h_p0_young h_p0_dropped h_p0_released h_p0_owed h_p0_counted h_p0_inMemory h_p0_onDisk h_p0_thn mem dsk fresh young dropped released owed counted inMemory onDisk thn moved) := by
  obtain ⟨cf, hr, hlk, hK, hN, hA⟩ := cx
  have hx := cf.1
  have hb := cf.2.1
  have hown := cf.2.2.2.1
  have ht : ∀ w ∈ wA, w.before args s = true := fun w h => cf.2.2.2.2 w (List.mem_cons_of_mem _ h)
  intro x1 x4 t0 inMemory h H locs ls hl hP hD hS
  unfold s_R_spread_inMemory_56 at h
  refine lv_istore (lv' := [(5, .int t0), (0, .ref h_p0), (3, .ref h_p0_inMemory), (1, .int x1), (4, .int x4)]) hx hb d_R_spread_56 hl (by decide) rfl (fun ls hl => ?_)
  refine lv_iload hx hb d_R_spread_58 (lv_at hl 4 rfl) ?_
  refine lv_iconst (v := (nI 2)) hx hb d_R_spread_60 (by decide) ?_
  refine lv_icmp_ne hx hb d_R_spread_61 rfl (fun hc => ?_) (fun hc => ?_)
  · rw [if_neg hc] at h
    cases h
    exact sc_vret cf hr hlk hK hP hD hS d_R_spread_69
  · rw [if_pos hc] at h
    refine lv_iload hx hb d_R_spread_64 (lv_at hl 0 rfl) ?_
    refine lv_if_ne hx hb d_R_spread_66 rfl (fun hc => ?_) (fun hc => ?_)
    · rw [if_neg hc] at h
      refine lv_iconst (v := (nI 0)) hx hb d_R_spread_70 (by decide) ?_
      refine lv_istore (lv' := [(6, .int (nI 0)), (5, .int t0), (0, .ref h_p0), (3, .ref h_p0_inMemory), (1, .int x1), (4, .int x4)]) hx hb d_R_spread_71 hl (by decide) rfl (fun ls hl => ?_)
      exact w_R_spread_inMemory_73 h_p0 h_p0_m h_p0_d h_p0_fresh h_p0_young h_p0_dropped h_p0_released h_p0_owed h_p0_counted h_p0_inMemory h_p0_onDisk h_p0_thn F mem dsk fresh young dropped released owed counted onDisk thn moved inMemory' ⟨cf, hr, hlk, hK, hN, hA⟩ F x1 t0 (nI 0) inMemory h H locs ls (lv_sub hl [2, 3, 4, 1, 0] rfl) hP hD hS
    · rw [if_pos hc] at h
      cases h
      exact sc_vret cf hr hlk hK hP hD hS d_R_spread_69
set_option maxHeartbeats 4000000 in
set_option maxRecDepth 100000 in
theorem w_R_spread_inMemory_27 {p : Program} {l : Launch} {e : Env} {s : State} {m : MethodId} {args : Array Value} {below : List Frame} {meth : Method} {c : Code} {D : va_G} {cI cZ : ClassId} {A : Nat → Prop} (h_p0 h_p0_m h_p0_d h_p0_fresh h_p0_young h_p0_dropped h_p0_released h_p0_owed h_p0_counted h_p0_inMemory h_p0_onDisk h_p0_thn : Nat) (F : Nat) (mem : (Nat → Int32)) (dsk : (Nat → Int32)) (fresh : (Nat → Int32)) (young : (Nat → Int32)) (dropped : (Nat → Int32)) (released : (Nat → Int32)) (owed : (Nat → Int32)) (counted : (Nat → Int32)) (onDisk : (Nat → Int32)) (thn : (Nat → Int32)) (moved : Int32) (inMemory' : (Nat → Int32)) (cx : cx_ok p s m args meth c b_R_spread 8 o_R_spread "OrderedVolumeModel" none D cI cZ A) : ∀ (x1 : Int32) (x2 : Int32) (t0 : Int32) (inMemory : (Nat → Int32)), s_R_spread_inMemory_27 F mem dsk fresh x1 x2 t0 inMemory = some inMemory' → wk_G p l e rm_R_spread s m args below meth c (sc_Qv below args s D cI cZ A (w_R cI cZ h_p0 h_p0_m h_p0_d h_p0_fresh h_p0_young h_p0_dropped h_p0_released h_p0_owed h_p0_counted h_p0_inMemory h_p0_onDisk h_p0_thn mem dsk fresh young dropped released owed counted (inMemory') onDisk thn moved)) D A 8 27 [.int t0] [(0, .ref h_p0), (3, .ref h_p0_inMemory), (1, .int x1), (2, .int x2)] (w_R cI cZ h_p0 h_p0_m h_p0_d h_p0_fresh h_p0_young h_p0_dropped h_p0_released h_p0_owed h_p0_counted h_p0_inMemory h_p0_onDisk h_p0_thn mem dsk fresh young dropped released owed counted inMemory onDisk thn moved) := by
  obtain ⟨cf, hr, hlk, hK, hN, hA⟩ := cx
  have hx := cf.1
  have hb := cf.2.1
  have hown := cf.2.2.2.1
  have ht : ∀ w ∈ wA, w.before args s = true := fun w h => cf.2.2.2.2 w (List.mem_cons_of_mem _ h)
  intro x1 x2 t0 inMemory h H locs ls hl hP hD hS
  unfold s_R_spread_inMemory_27 at h
  refine lv_istore (lv' := [(4, .int t0), (0, .ref h_p0), (3, .ref h_p0_inMemory), (1, .int x1), (2, .int x2)]) hx hb d_R_spread_27 hl (by decide) rfl (fun ls hl => ?_)
  refine lv_iload_n hx hb d_R_spread_29 rfl (lv_at hl 3 rfl) ?_
  refine lv_if_eq hx hb d_R_spread_30 rfl (fun hc => ?_) (fun hc => ?_)
  · rw [if_pos hc] at h
    refine lv_aload_n hx hb d_R_spread_46 rfl (lv_at hl 1 rfl) ?_
    refine va_get (D := D) (ci := 2) (v := .ref h_p0_m) (C := R_R) (T := F_R) (N := 12) hx hb ht in_R hown hK hP 0 rfl rfl 0 (by decide) (ht _ f_R_7) (fun _ h9 => h9) rfl d_R_spread_47 ?_
    refine lv_iload_n hx hb d_R_spread_50 rfl (lv_at hl 4 rfl) ?_
    refine lv_iconst (v := (nI 2)) hx hb d_R_spread_51 (by decide) ?_
    obtain ⟨r52, h52, h⟩ := bd_some h
    refine wk_Si (As := [.int x2, .int (nI 2)]) (rest := [.ref h_p0_m]) (wc := []) (w1 := []) (wr := [(h_p0, .inr (2, [.ref h_p0_m, .ref h_p0_d, .ref h_p0_fresh, .ref h_p0_young, .ref h_p0_dropped, .ref h_p0_released, .ref h_p0_owed, .ref h_p0_counted, .ref h_p0_inMemory, .ref h_p0_onDisk, .ref h_p0_thn, .int moved])), (h_p0_m, .inl (cI, 1080, .inl mem)), (h_p0_d, .inl (cI, 1080, .inl dsk)), (h_p0_fresh, .inl (cZ, 36, .inl fresh)), (h_p0_young, .inl (cZ, 288, .inl young)), (h_p0_dropped, .inl (cI, 36, .inl dropped)), (h_p0_released, .inl (cZ, 18, .inl released)), (h_p0_owed, .inl (cI, 18, .inl owed)), (h_p0_counted, .inl (cI, 18, .inl counted)), (h_p0_inMemory, .inl (cZ, 18, .inl inMemory)), (h_p0_onDisk, .inl (cZ, 18, .inl onDisk)), (h_p0_thn, .inl (cZ, 18, .inl thn))]) (wz := (w_R cI cZ h_p0 h_p0_m h_p0_d h_p0_fresh h_p0_young h_p0_dropped h_p0_released h_p0_owed h_p0_counted h_p0_inMemory h_p0_onDisk h_p0_thn mem dsk fresh young dropped released owed counted inMemory onDisk thn moved)) cf hK hN hA (c_R_at l D cI cZ 0 x2 (nI 2) r52 h52) k_R_44 ⟨rfl, rfl, by decide, by decide⟩ hl hP hD hS [] [0, 1, 2, 3, 4, 5, 6, 7, 8, 9, 10, 11] [0, 1, 2, 3, 4, 5, 6, 7, 8, 9, 10, 11] rfl rfl rfl (by decide) rfl rfl rfl rfl rfl (Nat.le_of_ble_eq_true rfl) rfl d_R_spread_52 (fun H locs hP hD hS => ?_)
    obtain ⟨hin, h⟩ := gr_some h
    refine va_iald hx hb hK hP 1 0 rfl rfl hin d_R_spread_55 ?_
    generalize mem r52.toNatClampNeg = v55 at h ⊢
    exact w_R_spread_inMemory_56 h_p0 h_p0_m h_p0_d h_p0_fresh h_p0_young h_p0_dropped h_p0_released h_p0_owed h_p0_counted h_p0_inMemory h_p0_onDisk h_p0_thn F mem dsk fresh young dropped released owed counted onDisk thn moved inMemory' ⟨cf, hr, hlk, hK, hN, hA⟩ x1 t0 v55 inMemory h H locs ls (lv_sub hl [1, 2, 3, 0] rfl) hP hD hS
  · rw [if_neg hc] at h
    refine lv_aload_n hx hb d_R_spread_33 rfl (lv_at hl 1 rfl) ?_
    refine va_get (D := D) (ci := 2) (v := .ref h_p0_d) (C := R_R) (T := F_R) (N := 12) hx hb ht in_R hown hK hP 0 rfl rfl 1 (by decide) (ht _ f_R_13) (fun _ h9 => h9) rfl d_R_spread_34 ?_
    refine lv_iload_n hx hb d_R_spread_37 rfl (lv_at hl 4 rfl) ?_
    refine lv_iconst (v := (nI 2)) hx hb d_R_spread_38 (by decide) ?_
    obtain ⟨r39, h39, h⟩ := bd_some h
    refine wk_Si (As := [.int x2, .int (nI 2)]) (rest := [.ref h_p0_d]) (wc := []) (w1 := []) (wr := [(h_p0, .inr (2, [.ref h_p0_m, .ref h_p0_d, .ref h_p0_fresh, .ref h_p0_young, .ref h_p0_dropped, .ref h_p0_released, .ref h_p0_owed, .ref h_p0_counted, .ref h_p0_inMemory, .ref h_p0_onDisk, .ref h_p0_thn, .int moved])), (h_p0_m, .inl (cI, 1080, .inl mem)), (h_p0_d, .inl (cI, 1080, .inl dsk)), (h_p0_fresh, .inl (cZ, 36, .inl fresh)), (h_p0_young, .inl (cZ, 288, .inl young)), (h_p0_dropped, .inl (cI, 36, .inl dropped)), (h_p0_released, .inl (cZ, 18, .inl released)), (h_p0_owed, .inl (cI, 18, .inl owed)), (h_p0_counted, .inl (cI, 18, .inl counted)), (h_p0_inMemory, .inl (cZ, 18, .inl inMemory)), (h_p0_onDisk, .inl (cZ, 18, .inl onDisk)), (h_p0_thn, .inl (cZ, 18, .inl thn))]) (wz := (w_R cI cZ h_p0 h_p0_m h_p0_d h_p0_fresh h_p0_young h_p0_dropped h_p0_released h_p0_owed h_p0_counted h_p0_inMemory h_p0_onDisk h_p0_thn mem dsk fresh young dropped released owed counted inMemory onDisk thn moved)) cf hK hN hA (c_R_at l D cI cZ 0 x2 (nI 2) r39 h39) k_R_44 ⟨rfl, rfl, by decide, by decide⟩ hl hP hD hS [] [0, 1, 2, 3, 4, 5, 6, 7, 8, 9, 10, 11] [0, 1, 2, 3, 4, 5, 6, 7, 8, 9, 10, 11] rfl rfl rfl (by decide) rfl rfl rfl rfl rfl (Nat.le_of_ble_eq_true rfl) rfl d_R_spread_39 (fun H locs hP hD hS => ?_)
    obtain ⟨hin, h⟩ := gr_some h
    refine va_iald hx hb hK hP 2 0 rfl rfl hin d_R_spread_42 ?_
    generalize dsk r39.toNatClampNeg = v42 at h ⊢
    refine lv_goto hx hb d_R_spread_43 rfl ?_
    exact w_R_spread_inMemory_56 h_p0 h_p0_m h_p0_d h_p0_fresh h_p0_young h_p0_dropped h_p0_released h_p0_owed h_p0_counted h_p0_inMemory h_p0_onDisk h_p0_thn F mem dsk fresh young dropped released owed counted onDisk thn moved inMemory' ⟨cf, hr, hlk, hK, hN, hA⟩ x1 t0 v42 inMemory h H locs ls (lv_sub hl [1, 2, 3, 0] rfl) hP hD hS
set_option maxHeartbeats 4000000 in
set_option maxRecDepth 100000 in
theorem c_R_spread_inMemory (l : Launch) (D : va_G) (cI cZ : ClassId) (h_p0 h_p0_m h_p0_d h_p0_fresh h_p0_young h_p0_dropped h_p0_released h_p0_owed h_p0_counted h_p0_inMemory h_p0_onDisk h_p0_thn : Nat) (F : Nat) (mem : (Nat → Int32)) (dsk : (Nat → Int32)) (fresh : (Nat → Int32)) (young : (Nat → Int32)) (dropped : (Nat → Int32)) (released : (Nat → Int32)) (owed : (Nat → Int32)) (counted : (Nat → Int32)) (inMemory : (Nat → Int32)) (onDisk : (Nat → Int32)) (thn : (Nat → Int32)) (moved : Int32) (inMemory' : (Nat → Int32)) (x1 : Int32) (x2 : Int32) (h : s_R_spread_inMemory F mem dsk fresh x1 x2 inMemory = some inMemory') : sc_v l y_R_spread (o_R_spread :: wA) rm_R_spread D cI cZ [.ref h_p0, .int x1, .int x2, .ref h_p0_inMemory] (w_R cI cZ h_p0 h_p0_m h_p0_d h_p0_fresh h_p0_young h_p0_dropped h_p0_released h_p0_owed h_p0_counted h_p0_inMemory h_p0_onDisk h_p0_thn mem dsk fresh young dropped released owed counted inMemory onDisk thn moved) (w_R cI cZ h_p0 h_p0_m h_p0_d h_p0_fresh h_p0_young h_p0_dropped h_p0_released h_p0_owed h_p0_counted h_p0_inMemory h_p0_onDisk h_p0_thn mem dsk fresh young dropped released owed counted (inMemory') onDisk thn moved) := by
  refine sc_v_of (cc := b_R_spread) (maxL := 8) (ret := none) (by decide) rfl (Nat.le_of_ble_eq_true rfl) ?_
  intro p e s m below meth c A cf hr hlk hK hN hA H locs ls hl hP hD hS
  have hx := cf.1
  have hb := cf.2.1
  have hown := cf.2.2.2.1
  have ht : ∀ w ∈ wA, w.before _ s = true := fun w h => cf.2.2.2.2 w (List.mem_cons_of_mem _ h)
  unfold s_R_spread_inMemory at h
  have hl : lv_has ls 8 [(0, .ref h_p0), (1, .int x1), (2, .int x2), (3, .ref h_p0_inMemory)] := hl
  refine lv_iload_n hx hb d_R_spread_0 rfl (lv_at hl 1 rfl) ?_
  refine lv_if_eq hx hb d_R_spread_1 rfl (fun hc => ?_) (fun hc => ?_)
  · rw [if_pos hc] at h
    refine lv_aload_n hx hb d_R_spread_17 rfl (lv_at hl 0 rfl) ?_
    refine va_get (D := D) (ci := 2) (v := .ref h_p0_m) (C := R_R) (T := F_R) (N := 12) hx hb ht in_R hown hK hP 0 rfl rfl 0 (by decide) (ht _ f_R_7) (fun _ h9 => h9) rfl d_R_spread_18 ?_
    refine lv_iload_n hx hb d_R_spread_21 rfl (lv_at hl 2 rfl) ?_
    refine lv_iconst (v := (nI 0)) hx hb d_R_spread_22 (by decide) ?_
    obtain ⟨r23, h23, h⟩ := bd_some h
    refine wk_Si (As := [.int x2, .int (nI 0)]) (rest := [.ref h_p0_m]) (wc := []) (w1 := []) (wr := [(h_p0, .inr (2, [.ref h_p0_m, .ref h_p0_d, .ref h_p0_fresh, .ref h_p0_young, .ref h_p0_dropped, .ref h_p0_released, .ref h_p0_owed, .ref h_p0_counted, .ref h_p0_inMemory, .ref h_p0_onDisk, .ref h_p0_thn, .int moved])), (h_p0_m, .inl (cI, 1080, .inl mem)), (h_p0_d, .inl (cI, 1080, .inl dsk)), (h_p0_fresh, .inl (cZ, 36, .inl fresh)), (h_p0_young, .inl (cZ, 288, .inl young)), (h_p0_dropped, .inl (cI, 36, .inl dropped)), (h_p0_released, .inl (cZ, 18, .inl released)), (h_p0_owed, .inl (cI, 18, .inl owed)), (h_p0_counted, .inl (cI, 18, .inl counted)), (h_p0_inMemory, .inl (cZ, 18, .inl inMemory)), (h_p0_onDisk, .inl (cZ, 18, .inl onDisk)), (h_p0_thn, .inl (cZ, 18, .inl thn))]) (wz := (w_R cI cZ h_p0 h_p0_m h_p0_d h_p0_fresh h_p0_young h_p0_dropped h_p0_released h_p0_owed h_p0_counted h_p0_inMemory h_p0_onDisk h_p0_thn mem dsk fresh young dropped released owed counted inMemory onDisk thn moved)) cf hK hN hA (c_R_at l D cI cZ 0 x2 (nI 0) r23 h23) k_R_44 ⟨rfl, rfl, by decide, by decide⟩ hl hP hD hS [] [0, 1, 2, 3, 4, 5, 6, 7, 8, 9, 10, 11] [0, 1, 2, 3, 4, 5, 6, 7, 8, 9, 10, 11] rfl rfl rfl (by decide) rfl rfl rfl rfl rfl (Nat.le_of_ble_eq_true rfl) rfl d_R_spread_23 (fun H locs hP hD hS => ?_)
    obtain ⟨hin, h⟩ := gr_some h
    refine va_iald hx hb hK hP 1 0 rfl rfl hin d_R_spread_26 ?_
    generalize mem r23.toNatClampNeg = v26 at h ⊢
    exact w_R_spread_inMemory_27 h_p0 h_p0_m h_p0_d h_p0_fresh h_p0_young h_p0_dropped h_p0_released h_p0_owed h_p0_counted h_p0_inMemory h_p0_onDisk h_p0_thn F mem dsk fresh young dropped released owed counted onDisk thn moved inMemory' ⟨cf, hr, hlk, hK, hN, hA⟩ x1 x2 v26 inMemory h H locs ls (lv_sub hl [0, 3, 1, 2] rfl) hP hD hS
  · rw [if_neg hc] at h
    refine lv_aload_n hx hb d_R_spread_4 rfl (lv_at hl 0 rfl) ?_
    refine va_get (D := D) (ci := 2) (v := .ref h_p0_d) (C := R_R) (T := F_R) (N := 12) hx hb ht in_R hown hK hP 0 rfl rfl 1 (by decide) (ht _ f_R_13) (fun _ h9 => h9) rfl d_R_spread_5 ?_
    refine lv_iload_n hx hb d_R_spread_8 rfl (lv_at hl 2 rfl) ?_
    refine lv_iconst (v := (nI 0)) hx hb d_R_spread_9 (by decide) ?_
    obtain ⟨r10, h10, h⟩ := bd_some h
    refine wk_Si (As := [.int x2, .int (nI 0)]) (rest := [.ref h_p0_d]) (wc := []) (w1 := []) (wr := [(h_p0, .inr (2, [.ref h_p0_m, .ref h_p0_d, .ref h_p0_fresh, .ref h_p0_young, .ref h_p0_dropped, .ref h_p0_released, .ref h_p0_owed, .ref h_p0_counted, .ref h_p0_inMemory, .ref h_p0_onDisk, .ref h_p0_thn, .int moved])), (h_p0_m, .inl (cI, 1080, .inl mem)), (h_p0_d, .inl (cI, 1080, .inl dsk)), (h_p0_fresh, .inl (cZ, 36, .inl fresh)), (h_p0_young, .inl (cZ, 288, .inl young)), (h_p0_dropped, .inl (cI, 36, .inl dropped)), (h_p0_released, .inl (cZ, 18, .inl released)), (h_p0_owed, .inl (cI, 18, .inl owed)), (h_p0_counted, .inl (cI, 18, .inl counted)), (h_p0_inMemory, .inl (cZ, 18, .inl inMemory)), (h_p0_onDisk, .inl (cZ, 18, .inl onDisk)), (h_p0_thn, .inl (cZ, 18, .inl thn))]) (wz := (w_R cI cZ h_p0 h_p0_m h_p0_d h_p0_fresh h_p0_young h_p0_dropped h_p0_released h_p0_owed h_p0_counted h_p0_inMemory h_p0_onDisk h_p0_thn mem dsk fresh young dropped released owed counted inMemory onDisk thn moved)) cf hK hN hA (c_R_at l D cI cZ 0 x2 (nI 0) r10 h10) k_R_44 ⟨rfl, rfl, by decide, by decide⟩ hl hP hD hS [] [0, 1, 2, 3, 4, 5, 6, 7, 8, 9, 10, 11] [0, 1, 2, 3, 4, 5, 6, 7, 8, 9, 10, 11] rfl rfl rfl (by decide) rfl rfl rfl rfl rfl (Nat.le_of_ble_eq_true rfl) rfl d_R_spread_10 (fun H locs hP hD hS => ?_)
    obtain ⟨hin, h⟩ := gr_some h
    refine va_iald hx hb hK hP 2 0 rfl rfl hin d_R_spread_13 ?_
    generalize dsk r10.toNatClampNeg = v13 at h ⊢
    refine lv_goto hx hb d_R_spread_14 rfl ?_
    exact w_R_spread_inMemory_27 h_p0 h_p0_m h_p0_d h_p0_fresh h_p0_young h_p0_dropped h_p0_released h_p0_owed h_p0_counted h_p0_inMemory h_p0_onDisk h_p0_thn F mem dsk fresh young dropped released owed counted onDisk thn moved inMemory' ⟨cf, hr, hlk, hK, hN, hA⟩ x1 x2 v13 inMemory h H locs ls (lv_sub hl [0, 3, 1, 2] rfl) hP hD hS
set_option maxHeartbeats 4000000 in
set_option maxRecDepth 100000 in
theorem w_R_below_inMemory_11 {p : Program} {l : Launch} {e : Env} {s : State} {m : MethodId} {args : Array Value} {below : List Frame} {meth : Method} {c : Code} {D : va_G} {cI cZ : ClassId} {A : Nat → Prop} (h_p0 h_p0_m h_p0_d h_p0_fresh h_p0_young h_p0_dropped h_p0_released h_p0_owed h_p0_counted h_p0_inMemory h_p0_onDisk h_p0_thn : Nat) (F : Nat) (mem : (Nat → Int32)) (dsk : (Nat → Int32)) (fresh : (Nat → Int32)) (young : (Nat → Int32)) (dropped : (Nat → Int32)) (released : (Nat → Int32)) (owed : (Nat → Int32)) (counted : (Nat → Int32)) (onDisk : (Nat → Int32)) (thn : (Nat → Int32)) (moved : Int32) (inMemory' : (Nat → Int32)) (k2 : Int32 → Int32 → (Nat → Int32) → Option ((Nat → Int32))) (cx : cx_ok p s m args meth c b_R_below 5 o_R_below "OrderedVolumeModel" none D cI cZ A) (h2 : (∀ (x1 : Int32) (x3 : Int32) (inMemory : (Nat → Int32)), k2 x1 x3 inMemory = some inMemory' → wk_G p l e rm_R_below s m args below meth c (sc_Qv below args s D cI cZ A (w_R cI cZ h_p0 h_p0_m h_p0_d h_p0_fresh h_p0_young h_p0_dropped h_p0_released h_p0_owed h_p0_counted h_p0_inMemory h_p0_onDisk h_p0_thn mem dsk fresh young dropped released owed counted (inMemory') onDisk thn moved)) D A 5 2 [] [(0, .ref h_p0), (2, .ref h_p0_inMemory), (1, .int x1), (3, .int x3)] (w_R cI cZ h_p0 h_p0_m h_p0_d h_p0_fresh h_p0_young h_p0_dropped h_p0_released h_p0_owed h_p0_counted h_p0_inMemory h_p0_onDisk h_p0_thn mem dsk fresh young dropped released owed counted inMemory onDisk thn moved))) : ∀ (n : Nat) (x1 : Int32) (x3 : Int32) (x4 : Int32) (inMemory : (Nat → Int32)), s_R_below_inMemory_11 F mem dsk fresh k2 n x1 x3 x4 inMemory = some inMemory' → wk_G p l e rm_R_below s m args below meth c (sc_Qv below args s D cI cZ A (w_R cI cZ h_p0 h_p0_m h_p0_d h_p0_fresh h_p0_young h_p0_dropped h_p0_released h_p0_owed h_p0_counted h_p0_inMemory h_p0_onDisk h_p0_thn mem dsk fresh young dropped released owed counted (inMemory') onDisk thn moved)) D A 5 11 [] [(0, .ref h_p0), (2, .ref h_p0_inMemory), (1, .int x1), (3, .int x3), (4, .int x4)] (w_R cI cZ h_p0 h_p0_m h_p0_d h_p0_fresh h_p0_young h_p0_dropped h_p0_released h_p0_owed h_p0_counted h_p0_inMemory h_p0_onDisk h_p0_thn mem dsk fresh young dropped released owed counted inMemory onDisk thn moved) := by
  obtain ⟨cf, hr, hlk, hK, hN, hA⟩ := cx
  have hx := cf.1
  have hb := cf.2.1
  have hown := cf.2.2.2.1
  have ht : ∀ w ∈ wA, w.before args s = true := fun w h => cf.2.2.2.2 w (List.mem_cons_of_mem _ h)
  intro n
  induction n with
  | zero => intro x1 x3 x4 inMemory h; cases (show (none : Option ((Nat → Int32))) = some _ from h)
  | succ n ih =>
    intro x1 x3 x4 inMemory h H locs ls hl hP hD hS
    unfold s_R_below_inMemory_11 at h
    refine lv_iload hx hb d_R_below_11 (lv_at hl 4 rfl) ?_
    refine lv_bipush (v := (nI 18)) hx hb d_R_below_13 (by decide) ?_
    refine lv_icmp_ge hx hb d_R_below_15 rfl (fun hc => ?_) (fun hc => ?_)
    · rw [if_pos hc] at h
      refine lv_iinc (k := 3) (v := (x3 + (nI 1))) (lv' := [(3, .int (x3 + (nI 1))), (0, .ref h_p0), (2, .ref h_p0_inMemory), (1, .int x1), (4, .int x4)]) hx hb d_R_below_39 hl rfl rfl (by decide) rfl (fun ls hl => ?_)
      refine lv_goto hx hb d_R_below_42 rfl ?_
      exact h2 x1 (x3 + (nI 1)) inMemory h H locs ls (lv_sub hl [1, 2, 3, 0] rfl) hP hD hS
    · rw [if_neg hc] at h
      refine lv_aload_n hx hb d_R_below_18 rfl (lv_at hl 1 rfl) ?_
      refine lv_iload hx hb d_R_below_19 (lv_at hl 4 rfl) ?_
      obtain ⟨hin, h⟩ := gr_some h
      refine va_zald hx hb hK hP 9 1 rfl rfl hin d_R_below_21 ?_
      generalize inMemory x4.toNatClampNeg = v21 at h ⊢
      refine lv_if_eq hx hb d_R_below_22 rfl (fun hc => ?_) (fun hc => ?_)
      · rw [if_pos hc] at h
        refine lv_iinc (k := 4) (v := (x4 + (nI 1))) (lv' := [(4, .int (x4 + (nI 1))), (0, .ref h_p0), (2, .ref h_p0_inMemory), (1, .int x1), (3, .int x3)]) hx hb d_R_below_33 hl rfl rfl (by decide) rfl (fun ls hl => ?_)
        refine lv_goto hx hb d_R_below_36 rfl ?_
        exact ih x1 x3 (x4 + (nI 1)) inMemory h H locs ls (lv_sub hl [1, 2, 3, 4, 0] rfl) hP hD hS
      · rw [if_neg hc] at h
        refine lv_aload_n hx hb d_R_below_25 rfl (lv_at hl 0 rfl) ?_
        refine lv_iload_n hx hb d_R_below_26 rfl (lv_at hl 2 rfl) ?_
        refine lv_iload hx hb d_R_below_27 (lv_at hl 4 rfl) ?_
        refine lv_aload_n hx hb d_R_below_29 rfl (lv_at hl 1 rfl) ?_
        obtain ⟨inMemory_30, h30, h⟩ := bd_some h
        refine wk_Vv (As := [.int x1, .int x4, .ref h_p0_inMemory]) (rest := []) (wc := (w_R cI cZ h_p0 h_p0_m h_p0_d h_p0_fresh h_p0_young h_p0_dropped h_p0_released h_p0_owed h_p0_counted h_p0_inMemory h_p0_onDisk h_p0_thn mem dsk fresh young dropped released owed counted inMemory onDisk thn moved)) (w1 := (w_R cI cZ h_p0 h_p0_m h_p0_d h_p0_fresh h_p0_young h_p0_dropped h_p0_released h_p0_owed h_p0_counted h_p0_inMemory h_p0_onDisk h_p0_thn mem dsk fresh young dropped released owed counted inMemory_30 onDisk thn moved)) (wr := []) (wz := (w_R cI cZ h_p0 h_p0_m h_p0_d h_p0_fresh h_p0_young h_p0_dropped h_p0_released h_p0_owed h_p0_counted h_p0_inMemory h_p0_onDisk h_p0_thn mem dsk fresh young dropped released owed counted inMemory_30 onDisk thn moved)) cf hK hN hA (c_R_spread_inMemory l D cI cZ h_p0 h_p0_m h_p0_d h_p0_fresh h_p0_young h_p0_dropped h_p0_released h_p0_owed h_p0_counted h_p0_inMemory h_p0_onDisk h_p0_thn F mem dsk fresh young dropped released owed counted inMemory onDisk thn moved inMemory_30 x1 x4 h30) k_R_62 ⟨rfl, rfl, by decide, by decide⟩ 2 rfl rfl rfl hl hP hD hS [0, 1, 2, 3, 4, 5, 6, 7, 8, 9, 10, 11] [] [0, 1, 2, 3, 4, 5, 6, 7, 8, 9, 10, 11] rfl rfl rfl (by decide) rfl rfl rfl rfl rfl (Nat.le_of_ble_eq_true rfl) rfl d_R_below_30 (fun H locs hP hD hS => ?_)
        refine lv_iinc (k := 4) (v := (x4 + (nI 1))) (lv' := [(4, .int (x4 + (nI 1))), (0, .ref h_p0), (2, .ref h_p0_inMemory), (1, .int x1), (3, .int x3)]) hx hb d_R_below_33 hl rfl rfl (by decide) rfl (fun ls hl => ?_)
        refine lv_goto hx hb d_R_below_36 rfl ?_
        exact ih x1 x3 (x4 + (nI 1)) inMemory_30 h H locs ls (lv_sub hl [1, 2, 3, 4, 0] rfl) hP hD hS
set_option maxHeartbeats 4000000 in
set_option maxRecDepth 100000 in
theorem w_R_below_inMemory_2 {p : Program} {l : Launch} {e : Env} {s : State} {m : MethodId} {args : Array Value} {below : List Frame} {meth : Method} {c : Code} {D : va_G} {cI cZ : ClassId} {A : Nat → Prop} (h_p0 h_p0_m h_p0_d h_p0_fresh h_p0_young h_p0_dropped h_p0_released h_p0_owed h_p0_counted h_p0_inMemory h_p0_onDisk h_p0_thn : Nat) (F : Nat) (mem : (Nat → Int32)) (dsk : (Nat → Int32)) (fresh : (Nat → Int32)) (young : (Nat → Int32)) (dropped : (Nat → Int32)) (released : (Nat → Int32)) (owed : (Nat → Int32)) (counted : (Nat → Int32)) (onDisk : (Nat → Int32)) (thn : (Nat → Int32)) (moved : Int32) (inMemory' : (Nat → Int32)) (cx : cx_ok p s m args meth c b_R_below 5 o_R_below "OrderedVolumeModel" none D cI cZ A) : ∀ (n : Nat) (x1 : Int32) (x3 : Int32) (inMemory : (Nat → Int32)), s_R_below_inMemory_2 F mem dsk fresh n x1 x3 inMemory = some inMemory' → wk_G p l e rm_R_below s m args below meth c (sc_Qv below args s D cI cZ A (w_R cI cZ h_p0 h_p0_m h_p0_d h_p0_fresh h_p0_young h_p0_dropped h_p0_released h_p0_owed h_p0_counted h_p0_inMemory h_p0_onDisk h_p0_thn mem dsk fresh young dropped released owed counted (inMemory') onDisk thn moved)) D A 5 2 [] [(0, .ref h_p0), (2, .ref h_p0_inMemory), (1, .int x1), (3, .int x3)] (w_R cI cZ h_p0 h_p0_m h_p0_d h_p0_fresh h_p0_young h_p0_dropped h_p0_released h_p0_owed h_p0_counted h_p0_inMemory h_p0_onDisk h_p0_thn mem dsk fresh young dropped released owed counted inMemory onDisk thn moved) := by
  obtain ⟨cf, hr, hlk, hK, hN, hA⟩ := cx
  have hx := cf.1
  have hb := cf.2.1
  have hown := cf.2.2.2.1
  have ht : ∀ w ∈ wA, w.before args s = true := fun w h => cf.2.2.2.2 w (List.mem_cons_of_mem _ h)
  intro n
  induction n with
  | zero => intro x1 x3 inMemory h; cases (show (none : Option ((Nat → Int32))) = some _ from h)
  | succ n ih =>
    intro x1 x3 inMemory h H locs ls hl hP hD hS
    unfold s_R_below_inMemory_2 at h
    refine lv_iload_n hx hb d_R_below_2 rfl (lv_at hl 3 rfl) ?_
    refine lv_bipush (v := (nI 18)) hx hb d_R_below_3 (by decide) ?_
    refine lv_icmp_ge hx hb d_R_below_5 rfl (fun hc => ?_) (fun hc => ?_)
    · rw [if_pos hc] at h
      cases h
      exact sc_vret cf hr hlk hK hP hD hS d_R_below_45
    · rw [if_neg hc] at h
      refine lv_iconst (v := (nI 0)) hx hb d_R_below_8 (by decide) ?_
      refine lv_istore (lv' := [(4, .int (nI 0)), (0, .ref h_p0), (2, .ref h_p0_inMemory), (1, .int x1), (3, .int x3)]) hx hb d_R_below_9 hl (by decide) rfl (fun ls hl => ?_)
      exact w_R_below_inMemory_11 h_p0 h_p0_m h_p0_d h_p0_fresh h_p0_young h_p0_dropped h_p0_released h_p0_owed h_p0_counted h_p0_inMemory h_p0_onDisk h_p0_thn F mem dsk fresh young dropped released owed counted onDisk thn moved inMemory' _ ⟨cf, hr, hlk, hK, hN, hA⟩ ih F x1 x3 (nI 0) inMemory h H locs ls (lv_sub hl [1, 2, 3, 4, 0] rfl) hP hD hS
set_option maxHeartbeats 4000000 in
set_option maxRecDepth 100000 in
theorem c_R_below_inMemory (l : Launch) (D : va_G) (cI cZ : ClassId) (h_p0 h_p0_m h_p0_d h_p0_fresh h_p0_young h_p0_dropped h_p0_released h_p0_owed h_p0_counted h_p0_inMemory h_p0_onDisk h_p0_thn : Nat) (F : Nat) (mem : (Nat → Int32)) (dsk : (Nat → Int32)) (fresh : (Nat → Int32)) (young : (Nat → Int32)) (dropped : (Nat → Int32)) (released : (Nat → Int32)) (owed : (Nat → Int32)) (counted : (Nat → Int32)) (inMemory : (Nat → Int32)) (onDisk : (Nat → Int32)) (thn : (Nat → Int32)) (moved : Int32) (inMemory' : (Nat → Int32)) (x1 : Int32) (h : s_R_below_inMemory F mem dsk fresh x1 inMemory = some inMemory') : sc_v l y_R_below (o_R_below :: wA) rm_R_below D cI cZ [.ref h_p0, .int x1, .ref h_p0_inMemory] (w_R cI cZ h_p0 h_p0_m h_p0_d h_p0_fresh h_p0_young h_p0_dropped h_p0_released h_p0_owed h_p0_counted h_p0_inMemory h_p0_onDisk h_p0_thn mem dsk fresh young dropped released owed counted inMemory onDisk thn moved) (w_R cI cZ h_p0 h_p0_m h_p0_d h_p0_fresh h_p0_young h_p0_dropped h_p0_released h_p0_owed h_p0_counted h_p0_inMemory h_p0_onDisk h_p0_thn mem dsk fresh young dropped released owed counted (inMemory') onDisk thn moved) := by
  refine sc_v_of (cc := b_R_below) (maxL := 5) (ret := none) (by decide) rfl (Nat.le_of_ble_eq_true rfl) ?_
  intro p e s m below meth c A cf hr hlk hK hN hA H locs ls hl hP hD hS
  have hx := cf.1
  have hb := cf.2.1
  have hown := cf.2.2.2.1
  have ht : ∀ w ∈ wA, w.before _ s = true := fun w h => cf.2.2.2.2 w (List.mem_cons_of_mem _ h)
  unfold s_R_below_inMemory at h
  have hl : lv_has ls 5 [(0, .ref h_p0), (1, .int x1), (2, .ref h_p0_inMemory)] := hl
  refine lv_iconst (v := (nI 0)) hx hb d_R_below_0 (by decide) ?_
  refine lv_istore_n (lv' := [(3, .int (nI 0)), (0, .ref h_p0), (1, .int x1), (2, .ref h_p0_inMemory)]) hx hb d_R_below_1 rfl hl (by decide) rfl (fun ls hl => ?_)
  exact w_R_below_inMemory_2 h_p0 h_p0_m h_p0_d h_p0_fresh h_p0_young h_p0_dropped h_p0_released h_p0_owed h_p0_counted h_p0_inMemory h_p0_onDisk h_p0_thn F mem dsk fresh young dropped released owed counted onDisk thn moved inMemory' ⟨cf, hr, hlk, hK, hN, hA⟩ F x1 (nI 0) inMemory h H locs ls (lv_sub hl [1, 3, 2, 0] rfl) hP hD hS
set_option maxHeartbeats 4000000 in
set_option maxRecDepth 100000 in
theorem w_R_tree_inMemory_19 {p : Program} {l : Launch} {e : Env} {s : State} {m : MethodId} {args : Array Value} {below : List Frame} {meth : Method} {c : Code} {D : va_G} {cI cZ : ClassId} {A : Nat → Prop} (h_p0 h_p0_m h_p0_d h_p0_fresh h_p0_young h_p0_dropped h_p0_released h_p0_owed h_p0_counted h_p0_inMemory h_p0_onDisk h_p0_thn : Nat) (F : Nat) (mem : (Nat → Int32)) (dsk : (Nat → Int32)) (fresh : (Nat → Int32)) (young : (Nat → Int32)) (dropped : (Nat → Int32)) (released : (Nat → Int32)) (owed : (Nat → Int32)) (counted : (Nat → Int32)) (onDisk : (Nat → Int32)) (thn : (Nat → Int32)) (moved : Int32) (inMemory' : (Nat → Int32)) (k2 : Int32 → Int32 → (Nat → Int32) → Option ((Nat → Int32))) (cx : cx_ok p s m args meth c b_R_tree 4 o_R_tree "OrderedVolumeModel" none D cI cZ A) (h2 : (∀ (x1 : Int32) (x3 : Int32) (inMemory : (Nat → Int32)), k2 x1 x3 inMemory = some inMemory' → wk_G p l e rm_R_tree s m args below meth c (sc_Qv below args s D cI cZ A (w_R cI cZ h_p0 h_p0_m h_p0_d h_p0_fresh h_p0_young h_p0_dropped h_p0_released h_p0_owed h_p0_counted h_p0_inMemory h_p0_onDisk h_p0_thn mem dsk fresh young dropped released owed counted (inMemory') onDisk thn moved)) D A 4 2 [] [(0, .ref h_p0), (2, .ref h_p0_inMemory), (1, .int x1), (3, .int x3)] (w_R cI cZ h_p0 h_p0_m h_p0_d h_p0_fresh h_p0_young h_p0_dropped h_p0_released h_p0_owed h_p0_counted h_p0_inMemory h_p0_onDisk h_p0_thn mem dsk fresh young dropped released owed counted inMemory onDisk thn moved))) : ∀ (x1 : Int32) (x3 : Int32) (t1 : Int32) (t2 : Int32) (inMemory : (Nat → Int32)), s_R_tree_inMemory_19 F mem dsk fresh k2 x1 x3 t1 t2 inMemory = some inMemory' → wk_G p l e rm_R_tree s m args below meth c (sc_Qv below args s D cI cZ A (w_R cI cZ h_p0 h_p0_m h_p0_d h_p0_fresh h_p0_young h_p0_dropped h_p0_released h_p0_owed h_p0_counted h_p0_inMemory h_p0_onDisk h_p0_thn mem dsk fresh young dropped released owed counted (inMemory') onDisk thn moved)) D A 4 19 [.int t2, .int t1, .ref h_p0_inMemory] [(0, .ref h_p0), (2, .ref h_p0_inMemory), (1, .int x1), (3, .int x3)] (w_R cI cZ h_p0 h_p0_m h_p0_d h_p0_fresh h_p0_young h_p0_dropped h_p0_released h_p0_owed h_p0_counted h_p0_inMemory h_p0_onDisk h_p0_thn mem dsk fresh young dropped released owed counted inMemory onDisk thn moved) := by
  obtain ⟨cf, hr, hlk, hK, hN, hA⟩ := cx
  have hx := cf.1
  have hb := cf.2.1
  have hown := cf.2.2.2.1
  have ht : ∀ w ∈ wA, w.before args s = true := fun w h => cf.2.2.2.2 w (List.mem_cons_of_mem _ h)
  intro x1 x3 t1 t2 inMemory h H locs ls hl hP hD hS
  unfold s_R_tree_inMemory_19 at h
  obtain ⟨hin, h⟩ := ga_some h
  refine va_zast hx hb hK hP hD hS 9 1 rfl rfl hin d_R_tree_19 (fun H locs hP hD hS => ?_)
  have hP : va_P D clA (w_R cI cZ h_p0 h_p0_m h_p0_d h_p0_fresh h_p0_young h_p0_dropped h_p0_released h_p0_owed h_p0_counted h_p0_inMemory h_p0_onDisk h_p0_thn mem dsk fresh young dropped released owed counted (upd inMemory t1.toNatClampNeg (vp_nar .boolean t2)) onDisk thn moved) H := hP
  have hD : va_D A (w_R cI cZ h_p0 h_p0_m h_p0_d h_p0_fresh h_p0_young h_p0_dropped h_p0_released h_p0_owed h_p0_counted h_p0_inMemory h_p0_onDisk h_p0_thn mem dsk fresh young dropped released owed counted (upd inMemory t1.toNatClampNeg (vp_nar .boolean t2)) onDisk thn moved) := hD
  refine lv_iinc (k := 3) (v := (x3 + (nI 1))) (lv' := [(3, .int (x3 + (nI 1))), (0, .ref h_p0), (2, .ref h_p0_inMemory), (1, .int x1)]) hx hb d_R_tree_20 hl rfl rfl (by decide) rfl (fun ls hl => ?_)
  refine lv_goto hx hb d_R_tree_23 rfl ?_
  exact h2 x1 (x3 + (nI 1)) (upd inMemory t1.toNatClampNeg (vp_nar .boolean t2)) h H locs ls (lv_sub hl [1, 2, 3, 0] rfl) hP hD hS
set_option maxHeartbeats 4000000 in
set_option maxRecDepth 100000 in
theorem w_R_tree_inMemory_2 {p : Program} {l : Launch} {e : Env} {s : State} {m : MethodId} {args : Array Value} {below : List Frame} {meth : Method} {c : Code} {D : va_G} {cI cZ : ClassId} {A : Nat → Prop} (h_p0 h_p0_m h_p0_d h_p0_fresh h_p0_young h_p0_dropped h_p0_released h_p0_owed h_p0_counted h_p0_inMemory h_p0_onDisk h_p0_thn : Nat) (F : Nat) (mem : (Nat → Int32)) (dsk : (Nat → Int32)) (fresh : (Nat → Int32)) (young : (Nat → Int32)) (dropped : (Nat → Int32)) (released : (Nat → Int32)) (owed : (Nat → Int32)) (counted : (Nat → Int32)) (onDisk : (Nat → Int32)) (thn : (Nat → Int32)) (moved : Int32) (inMemory' : (Nat → Int32)) (cx : cx_ok p s m args meth c b_R_tree 4 o_R_tree "OrderedVolumeModel" none D cI cZ A) : ∀ (n : Nat) (x1 : Int32) (x3 : Int32) (inMemory : (Nat → Int32)), s_R_tree_inMemory_2 F mem dsk fresh n x1 x3 inMemory = some inMemory' → wk_G p l e rm_R_tree s m args below meth c (sc_Qv below args s D cI cZ A (w_R cI cZ h_p0 h_p0_m h_p0_d h_p0_fresh h_p0_young h_p0_dropped h_p0_released h_p0_owed h_p0_counted h_p0_inMemory h_p0_onDisk h_p0_thn mem dsk fresh young dropped released owed counted (inMemory') onDisk thn moved)) D A 4 2 [] [(0, .ref h_p0), (2, .ref h_p0_inMemory), (1, .int x1), (3, .int x3)] (w_R cI cZ h_p0 h_p0_m h_p0_d h_p0_fresh h_p0_young h_p0_dropped h_p0_released h_p0_owed h_p0_counted h_p0_inMemory h_p0_onDisk h_p0_thn mem dsk fresh young dropped released owed counted inMemory onDisk thn moved) := by
  obtain ⟨cf, hr, hlk, hK, hN, hA⟩ := cx
  have hx := cf.1
  have hb := cf.2.1
  have hown := cf.2.2.2.1
  have ht : ∀ w ∈ wA, w.before args s = true := fun w h => cf.2.2.2.2 w (List.mem_cons_of_mem _ h)
  intro n
  induction n with
  | zero => intro x1 x3 inMemory h; cases (show (none : Option ((Nat → Int32))) = some _ from h)
  | succ n ih =>
    intro x1 x3 inMemory h H locs ls hl hP hD hS
    unfold s_R_tree_inMemory_2 at h
    refine lv_iload_n hx hb d_R_tree_2 rfl (lv_at hl 3 rfl) ?_
    refine lv_bipush (v := (nI 18)) hx hb d_R_tree_3 (by decide) ?_
    refine lv_icmp_ge hx hb d_R_tree_5 rfl (fun hc => ?_) (fun hc => ?_)
    · rw [if_pos hc] at h
      refine lv_aload_n hx hb d_R_tree_26 rfl (lv_at hl 0 rfl) ?_
      refine lv_iload_n hx hb d_R_tree_27 rfl (lv_at hl 2 rfl) ?_
      refine lv_aload_n hx hb d_R_tree_28 rfl (lv_at hl 1 rfl) ?_
      obtain ⟨inMemory_29, h29, h⟩ := bd_some h
      refine wk_Vv (As := [.int x1, .ref h_p0_inMemory]) (rest := []) (wc := (w_R cI cZ h_p0 h_p0_m h_p0_d h_p0_fresh h_p0_young h_p0_dropped h_p0_released h_p0_owed h_p0_counted h_p0_inMemory h_p0_onDisk h_p0_thn mem dsk fresh young dropped released owed counted inMemory onDisk thn moved)) (w1 := (w_R cI cZ h_p0 h_p0_m h_p0_d h_p0_fresh h_p0_young h_p0_dropped h_p0_released h_p0_owed h_p0_counted h_p0_inMemory h_p0_onDisk h_p0_thn mem dsk fresh young dropped released owed counted inMemory_29 onDisk thn moved)) (wr := []) (wz := (w_R cI cZ h_p0 h_p0_m h_p0_d h_p0_fresh h_p0_young h_p0_dropped h_p0_released h_p0_owed h_p0_counted h_p0_inMemory h_p0_onDisk h_p0_thn mem dsk fresh young dropped released owed counted inMemory_29 onDisk thn moved)) cf hK hN hA (c_R_below_inMemory l D cI cZ h_p0 h_p0_m h_p0_d h_p0_fresh h_p0_young h_p0_dropped h_p0_released h_p0_owed h_p0_counted h_p0_inMemory h_p0_onDisk h_p0_thn F mem dsk fresh young dropped released owed counted inMemory onDisk thn moved inMemory_29 x1 h29) k_R_58 ⟨rfl, rfl, by decide, by decide⟩ 2 rfl rfl rfl hl hP hD hS [0, 1, 2, 3, 4, 5, 6, 7, 8, 9, 10, 11] [] [0, 1, 2, 3, 4, 5, 6, 7, 8, 9, 10, 11] rfl rfl rfl (by decide) rfl rfl rfl rfl rfl (Nat.le_of_ble_eq_true rfl) rfl d_R_tree_29 (fun H locs hP hD hS => ?_)
      cases h
      exact sc_vret cf hr hlk hK hP hD hS d_R_tree_32
    · rw [if_neg hc] at h
      refine lv_aload_n hx hb d_R_tree_8 rfl (lv_at hl 1 rfl) ?_
      refine lv_iload_n hx hb d_R_tree_9 rfl (lv_at hl 3 rfl) ?_
      refine lv_iload_n hx hb d_R_tree_10 rfl (lv_at hl 3 rfl) ?_
      refine lv_if_ne hx hb d_R_tree_11 rfl (fun hc => ?_) (fun hc => ?_)
      · rw [if_neg hc] at h
        refine lv_iconst (v := (nI 0)) hx hb d_R_tree_18 (by decide) ?_
        exact w_R_tree_inMemory_19 h_p0 h_p0_m h_p0_d h_p0_fresh h_p0_young h_p0_dropped h_p0_released h_p0_owed h_p0_counted h_p0_inMemory h_p0_onDisk h_p0_thn F mem dsk fresh young dropped released owed counted onDisk thn moved inMemory' _ ⟨cf, hr, hlk, hK, hN, hA⟩ ih x1 x3 x3 (nI 0) inMemory h H locs ls (lv_sub hl [0, 1, 2, 3] rfl) hP hD hS
      · rw [if_pos hc] at h
        refine lv_iconst (v := (nI 1)) hx hb d_R_tree_14 (by decide) ?_
        refine lv_goto hx hb d_R_tree_15 rfl ?_
        exact w_R_tree_inMemory_19 h_p0 h_p0_m h_p0_d h_p0_fresh h_p0_young h_p0_dropped h_p0_released h_p0_owed h_p0_counted h_p0_inMemory h_p0_onDisk h_p0_thn F mem dsk fresh young dropped released owed counted onDisk thn moved inMemory' _ ⟨cf, hr, hlk, hK, hN, hA⟩ ih x1 x3 x3 (nI 1) inMemory h H locs ls (lv_sub hl [0, 1, 2, 3] rfl) hP hD hS
set_option maxHeartbeats 4000000 in
set_option maxRecDepth 100000 in
theorem c_R_tree_inMemory (l : Launch) (D : va_G) (cI cZ : ClassId) (h_p0 h_p0_m h_p0_d h_p0_fresh h_p0_young h_p0_dropped h_p0_released h_p0_owed h_p0_counted h_p0_inMemory h_p0_onDisk h_p0_thn : Nat) (F : Nat) (mem : (Nat → Int32)) (dsk : (Nat → Int32)) (fresh : (Nat → Int32)) (young : (Nat → Int32)) (dropped : (Nat → Int32)) (released : (Nat → Int32)) (owed : (Nat → Int32)) (counted : (Nat → Int32)) (inMemory : (Nat → Int32)) (onDisk : (Nat → Int32)) (thn : (Nat → Int32)) (moved : Int32) (inMemory' : (Nat → Int32)) (x1 : Int32) (h : s_R_tree_inMemory F mem dsk fresh x1 inMemory = some inMemory') : sc_v l y_R_tree (o_R_tree :: wA) rm_R_tree D cI cZ [.ref h_p0, .int x1, .ref h_p0_inMemory] (w_R cI cZ h_p0 h_p0_m h_p0_d h_p0_fresh h_p0_young h_p0_dropped h_p0_released h_p0_owed h_p0_counted h_p0_inMemory h_p0_onDisk h_p0_thn mem dsk fresh young dropped released owed counted inMemory onDisk thn moved) (w_R cI cZ h_p0 h_p0_m h_p0_d h_p0_fresh h_p0_young h_p0_dropped h_p0_released h_p0_owed h_p0_counted h_p0_inMemory h_p0_onDisk h_p0_thn mem dsk fresh young dropped released owed counted (inMemory') onDisk thn moved) := by
  refine sc_v_of (cc := b_R_tree) (maxL := 4) (ret := none) (by decide) rfl (Nat.le_of_ble_eq_true rfl) ?_
  intro p e s m below meth c A cf hr hlk hK hN hA H locs ls hl hP hD hS
  have hx := cf.1
  have hb := cf.2.1
  have hown := cf.2.2.2.1
  have ht : ∀ w ∈ wA, w.before _ s = true := fun w h => cf.2.2.2.2 w (List.mem_cons_of_mem _ h)
  unfold s_R_tree_inMemory at h
  have hl : lv_has ls 4 [(0, .ref h_p0), (1, .int x1), (2, .ref h_p0_inMemory)] := hl
  refine lv_iconst (v := (nI 0)) hx hb d_R_tree_0 (by decide) ?_
  refine lv_istore_n (lv' := [(3, .int (nI 0)), (0, .ref h_p0), (1, .int x1), (2, .ref h_p0_inMemory)]) hx hb d_R_tree_1 rfl hl (by decide) rfl (fun ls hl => ?_)
  exact w_R_tree_inMemory_2 h_p0 h_p0_m h_p0_d h_p0_fresh h_p0_young h_p0_dropped h_p0_released h_p0_owed h_p0_counted h_p0_inMemory h_p0_onDisk h_p0_thn F mem dsk fresh young dropped released owed counted onDisk thn moved inMemory' ⟨cf, hr, hlk, hK, hN, hA⟩ F x1 (nI 0) inMemory h H locs ls (lv_sub hl [1, 3, 2, 0] rfl) hP hD hS
set_option maxHeartbeats 4000000 in
set_option maxRecDepth 100000 in
theorem w_R_holds_48 {p : Program} {l : Launch} {e : Env} {s : State} {m : MethodId} {args : Array Value} {below : List Frame} {meth : Method} {c : Code} {D : va_G} {cI cZ : ClassId} {A : Nat → Prop} (h_p0 h_p0_m h_p0_d h_p0_fresh h_p0_young h_p0_dropped h_p0_released h_p0_owed h_p0_counted h_p0_inMemory h_p0_onDisk h_p0_thn : Nat) (F : Nat) (mem : (Nat → Int32)) (dsk : (Nat → Int32)) (fresh : (Nat → Int32)) (young : (Nat → Int32)) (dropped : (Nat → Int32)) (released : (Nat → Int32)) (owed : (Nat → Int32)) (counted : (Nat → Int32)) (onDisk : (Nat → Int32)) (thn : (Nat → Int32)) (moved : Int32) (inMemory' : (Nat → Int32)) (r : Int32) (cx : cx_ok p s m args meth c b_R_holds 3 o_R_holds "OrderedVolumeModel" (some .boolean) D cI cZ A) : ∀ (inMemory : (Nat → Int32)), s_R_holds_48 F mem dsk fresh inMemory = some (r, inMemory') → wk_G p l e rm_R_holds s m args below meth c (sc_Qi below args s D cI cZ A (w_R cI cZ h_p0 h_p0_m h_p0_d h_p0_fresh h_p0_young h_p0_dropped h_p0_released h_p0_owed h_p0_counted h_p0_inMemory h_p0_onDisk h_p0_thn mem dsk fresh young dropped released owed counted (inMemory') onDisk thn moved) r) D A 3 48 [] [(0, .ref h_p0)] (w_R cI cZ h_p0 h_p0_m h_p0_d h_p0_fresh h_p0_young h_p0_dropped h_p0_released h_p0_owed h_p0_counted h_p0_inMemory h_p0_onDisk h_p0_thn mem dsk fresh young dropped released owed counted inMemory onDisk thn moved) := by
  obtain ⟨cf, hr, hlk, hK, hN, hA⟩ := cx
  have hx := cf.1
  have hb := cf.2.1
  have hown := cf.2.2.2.1
  have ht : ∀ w ∈ wA, w.before args s = true := fun w h => cf.2.2.2.2 w (List.mem_cons_of_mem _ h)
  intro inMemory h H locs ls hl hP hD hS
  unfold s_R_holds_48 at h
  refine lv_iconst (v := (nI 0)) hx hb d_R_holds_48 (by decide) ?_
  have hz : ((nI 0) : Int32) = 0 ∨ ((nI 0) : Int32) = 1 := by decide
  cases h
  exact sc_zret cf hr hlk hz hK hP hD hS d_R_holds_49
set_option maxHeartbeats 4000000 in
set_option maxRecDepth 100000 in
theorem c_R_holds (l : Launch) (D : va_G) (cI cZ : ClassId) (h_p0 h_p0_m h_p0_d h_p0_fresh h_p0_young h_p0_dropped h_p0_released h_p0_owed h_p0_counted h_p0_inMemory h_p0_onDisk h_p0_thn : Nat) (F : Nat) (mem : (Nat → Int32)) (dsk : (Nat → Int32)) (fresh : (Nat → Int32)) (young : (Nat → Int32)) (dropped : (Nat → Int32)) (released : (Nat → Int32)) (owed : (Nat → Int32)) (counted : (Nat → Int32)) (inMemory : (Nat → Int32)) (onDisk : (Nat → Int32)) (thn : (Nat → Int32)) (moved : Int32) (inMemory' : (Nat → Int32)) (x1 : Int32) (x2 : Int32) (r : Int32) (h : s_R_holds F mem dsk fresh x1 x2 inMemory = some (r, inMemory')) : sc_i l y_R_holds (o_R_holds :: wA) rm_R_holds D cI cZ [.ref h_p0, .int x1, .int x2] (w_R cI cZ h_p0 h_p0_m h_p0_d h_p0_fresh h_p0_young h_p0_dropped h_p0_released h_p0_owed h_p0_counted h_p0_inMemory h_p0_onDisk h_p0_thn mem dsk fresh young dropped released owed counted inMemory onDisk thn moved) (w_R cI cZ h_p0 h_p0_m h_p0_d h_p0_fresh h_p0_young h_p0_dropped h_p0_released h_p0_owed h_p0_counted h_p0_inMemory h_p0_onDisk h_p0_thn mem dsk fresh young dropped released owed counted (inMemory') onDisk thn moved) r := by
  refine sc_i_of (cc := b_R_holds) (maxL := 3) (ret := (some .boolean)) (by decide) rfl (Nat.le_of_ble_eq_true rfl) ?_
  intro p e s m below meth c A cf hr hlk hK hN hA H locs ls hl hP hD hS
  have hx := cf.1
  have hb := cf.2.1
  have hown := cf.2.2.2.1
  have ht : ∀ w ∈ wA, w.before _ s = true := fun w h => cf.2.2.2.2 w (List.mem_cons_of_mem _ h)
  unfold s_R_holds at h
  have hl : lv_has ls 3 [(0, .ref h_p0), (1, .int x1), (2, .int x2)] := hl
  refine lv_iload_n hx hb d_R_holds_0 rfl (lv_at hl 1 rfl) ?_
  refine lv_if_lt hx hb d_R_holds_1 rfl (fun hc => ?_) (fun hc => ?_)
  · rw [if_pos hc] at h
    refine lv_iconst (v := (nI 0)) hx hb d_R_holds_10 (by decide) ?_
    have hz : ((nI 0) : Int32) = 0 ∨ ((nI 0) : Int32) = 1 := by decide
    cases h
    exact sc_zret cf hr hlk hz hK hP hD hS d_R_holds_11
  · rw [if_neg hc] at h
    refine lv_iload_n hx hb d_R_holds_4 rfl (lv_at hl 1 rfl) ?_
    refine lv_bipush (v := (nI 17)) hx hb d_R_holds_5 (by decide) ?_
    refine lv_icmp_le hx hb d_R_holds_7 rfl (fun hc => ?_) (fun hc => ?_)
    · rw [if_pos hc] at h
      refine lv_aload_n hx hb d_R_holds_12 rfl (lv_at hl 0 rfl) ?_
      refine lv_iconst (v := (nI 0)) hx hb d_R_holds_13 (by decide) ?_
      refine lv_aload_n hx hb d_R_holds_14 rfl (lv_at hl 0 rfl) ?_
      refine va_get (D := D) (ci := 2) (v := .ref h_p0_inMemory) (C := R_R) (T := F_R) (N := 12) hx hb ht in_R hown hK hP 0 rfl rfl 8 (by decide) (ht _ f_R_35) (fun _ h9 => h9) rfl d_R_holds_15 ?_
      obtain ⟨inMemory_18, h18, h⟩ := bd_some h
      refine wk_Vv (As := [.int (nI 0), .ref h_p0_inMemory]) (rest := []) (wc := (w_R cI cZ h_p0 h_p0_m h_p0_d h_p0_fresh h_p0_young h_p0_dropped h_p0_released h_p0_owed h_p0_counted h_p0_inMemory h_p0_onDisk h_p0_thn mem dsk fresh young dropped released owed counted inMemory onDisk thn moved)) (w1 := (w_R cI cZ h_p0 h_p0_m h_p0_d h_p0_fresh h_p0_young h_p0_dropped h_p0_released h_p0_owed h_p0_counted h_p0_inMemory h_p0_onDisk h_p0_thn mem dsk fresh young dropped released owed counted inMemory_18 onDisk thn moved)) (wr := []) (wz := (w_R cI cZ h_p0 h_p0_m h_p0_d h_p0_fresh h_p0_young h_p0_dropped h_p0_released h_p0_owed h_p0_counted h_p0_inMemory h_p0_onDisk h_p0_thn mem dsk fresh young dropped released owed counted inMemory_18 onDisk thn moved)) cf hK hN hA (c_R_tree_inMemory l D cI cZ h_p0 h_p0_m h_p0_d h_p0_fresh h_p0_young h_p0_dropped h_p0_released h_p0_owed h_p0_counted h_p0_inMemory h_p0_onDisk h_p0_thn F mem dsk fresh young dropped released owed counted inMemory onDisk thn moved inMemory_18 (nI 0) h18) k_R_69 ⟨rfl, rfl, by decide, by decide⟩ 2 rfl rfl rfl hl hP hD hS [0, 1, 2, 3, 4, 5, 6, 7, 8, 9, 10, 11] [] [0, 1, 2, 3, 4, 5, 6, 7, 8, 9, 10, 11] rfl rfl rfl (by decide) rfl rfl rfl rfl rfl (Nat.le_of_ble_eq_true rfl) rfl d_R_holds_18 (fun H locs hP hD hS => ?_)
      refine lv_aload_n hx hb d_R_holds_21 rfl (lv_at hl 0 rfl) ?_
      refine va_get (D := D) (ci := 2) (v := .ref h_p0_inMemory) (C := R_R) (T := F_R) (N := 12) hx hb ht in_R hown hK hP 0 rfl rfl 8 (by decide) (ht _ f_R_35) (fun _ h9 => h9) rfl d_R_holds_22 ?_
      refine lv_iload_n hx hb d_R_holds_25 rfl (lv_at hl 1 rfl) ?_
      obtain ⟨hin, h⟩ := gr_some h
      refine va_zald hx hb hK hP 9 1 rfl rfl hin d_R_holds_26 ?_
      generalize inMemory_18 x1.toNatClampNeg = v26 at h ⊢
      refine lv_if_eq hx hb d_R_holds_27 rfl (fun hc => ?_) (fun hc => ?_)
      · rw [if_pos hc] at h
        exact w_R_holds_48 h_p0 h_p0_m h_p0_d h_p0_fresh h_p0_young h_p0_dropped h_p0_released h_p0_owed h_p0_counted h_p0_inMemory h_p0_onDisk h_p0_thn F mem dsk fresh young dropped released owed counted onDisk thn moved inMemory' r ⟨cf, hr, hlk, hK, hN, hA⟩ inMemory_18 h H locs ls (lv_sub hl [0] rfl) hP hD hS
      · rw [if_neg hc] at h
        refine lv_aload_n hx hb d_R_holds_30 rfl (lv_at hl 0 rfl) ?_
        refine va_get (D := D) (ci := 2) (v := .ref h_p0_m) (C := R_R) (T := F_R) (N := 12) hx hb ht in_R hown hK hP 0 rfl rfl 0 (by decide) (ht _ f_R_7) (fun _ h9 => h9) rfl d_R_holds_31 ?_
        refine lv_iload_n hx hb d_R_holds_34 rfl (lv_at hl 1 rfl) ?_
        refine lv_iconst (v := (nI 0)) hx hb d_R_holds_35 (by decide) ?_
        obtain ⟨r36, h36, h⟩ := bd_some h
        refine wk_Si (As := [.int x1, .int (nI 0)]) (rest := [.ref h_p0_m]) (wc := []) (w1 := []) (wr := [(h_p0, .inr (2, [.ref h_p0_m, .ref h_p0_d, .ref h_p0_fresh, .ref h_p0_young, .ref h_p0_dropped, .ref h_p0_released, .ref h_p0_owed, .ref h_p0_counted, .ref h_p0_inMemory, .ref h_p0_onDisk, .ref h_p0_thn, .int moved])), (h_p0_m, .inl (cI, 1080, .inl mem)), (h_p0_d, .inl (cI, 1080, .inl dsk)), (h_p0_fresh, .inl (cZ, 36, .inl fresh)), (h_p0_young, .inl (cZ, 288, .inl young)), (h_p0_dropped, .inl (cI, 36, .inl dropped)), (h_p0_released, .inl (cZ, 18, .inl released)), (h_p0_owed, .inl (cI, 18, .inl owed)), (h_p0_counted, .inl (cI, 18, .inl counted)), (h_p0_inMemory, .inl (cZ, 18, .inl inMemory_18)), (h_p0_onDisk, .inl (cZ, 18, .inl onDisk)), (h_p0_thn, .inl (cZ, 18, .inl thn))]) (wz := (w_R cI cZ h_p0 h_p0_m h_p0_d h_p0_fresh h_p0_young h_p0_dropped h_p0_released h_p0_owed h_p0_counted h_p0_inMemory h_p0_onDisk h_p0_thn mem dsk fresh young dropped released owed counted inMemory_18 onDisk thn moved)) cf hK hN hA (c_R_at l D cI cZ 0 x1 (nI 0) r36 h36) k_R_44 ⟨rfl, rfl, by decide, by decide⟩ hl hP hD hS [] [0, 1, 2, 3, 4, 5, 6, 7, 8, 9, 10, 11] [0, 1, 2, 3, 4, 5, 6, 7, 8, 9, 10, 11] rfl rfl rfl (by decide) rfl rfl rfl rfl rfl (Nat.le_of_ble_eq_true rfl) rfl d_R_holds_36 (fun H locs hP hD hS => ?_)
        obtain ⟨hin, h⟩ := gr_some h
        refine va_iald hx hb hK hP 1 0 rfl rfl hin d_R_holds_39 ?_
        generalize mem r36.toNatClampNeg = v39 at h ⊢
        refine lv_iload_n hx hb d_R_holds_40 rfl (lv_at hl 2 rfl) ?_
        refine lv_icmp_ne hx hb d_R_holds_41 rfl (fun hc => ?_) (fun hc => ?_)
        · rw [if_neg hc] at h
          exact w_R_holds_48 h_p0 h_p0_m h_p0_d h_p0_fresh h_p0_young h_p0_dropped h_p0_released h_p0_owed h_p0_counted h_p0_inMemory h_p0_onDisk h_p0_thn F mem dsk fresh young dropped released owed counted onDisk thn moved inMemory' r ⟨cf, hr, hlk, hK, hN, hA⟩ inMemory_18 h H locs ls (lv_sub hl [0] rfl) hP hD hS
        · rw [if_pos hc] at h
          refine lv_iconst (v := (nI 1)) hx hb d_R_holds_44 (by decide) ?_
          refine lv_goto hx hb d_R_holds_45 rfl ?_
          have hz : ((nI 1) : Int32) = 0 ∨ ((nI 1) : Int32) = 1 := by decide
          cases h
          exact sc_zret cf hr hlk hz hK hP hD hS d_R_holds_49
    · rw [if_neg hc] at h
      refine lv_iconst (v := (nI 0)) hx hb d_R_holds_10 (by decide) ?_
      have hz : ((nI 0) : Int32) = 0 ∨ ((nI 0) : Int32) = 1 := by decide
      cases h
      exact sc_zret cf hr hlk hz hK hP hD hS d_R_holds_11
set_option maxHeartbeats 4000000 in
set_option maxRecDepth 100000 in
theorem w_R_find_14 {p : Program} {l : Launch} {e : Env} {s : State} {m : MethodId} {args : Array Value} {below : List Frame} {meth : Method} {c : Code} {D : va_G} {cI cZ : ClassId} {A : Nat → Prop} (h_p0 h_p0_m h_p0_d h_p0_fresh h_p0_young h_p0_dropped h_p0_released h_p0_owed h_p0_counted h_p0_inMemory h_p0_onDisk h_p0_thn : Nat) (F : Nat) (mem : (Nat → Int32)) (dsk : (Nat → Int32)) (fresh : (Nat → Int32)) (young : (Nat → Int32)) (dropped : (Nat → Int32)) (released : (Nat → Int32)) (owed : (Nat → Int32)) (counted : (Nat → Int32)) (inMemory : (Nat → Int32)) (onDisk : (Nat → Int32)) (thn : (Nat → Int32)) (moved : Int32) (r : Int32) (cx : cx_ok p s m args meth c b_R_find 5 o_R_find "OrderedVolumeModel" (some .int) D cI cZ A) : ∀ (n : Nat) (x2 : Int32) (x3 : Int32) (x4 : Int32), s_R_find_14 F mem n x2 x3 x4 = some r → wk_G p l e rm_R_find s m args below meth c (sc_Qi below args s D cI cZ A (w_R cI cZ h_p0 h_p0_m h_p0_d h_p0_fresh h_p0_young h_p0_dropped h_p0_released h_p0_owed h_p0_counted h_p0_inMemory h_p0_onDisk h_p0_thn mem dsk fresh young dropped released owed counted inMemory onDisk thn moved) r) D A 5 14 [] [(0, .ref h_p0), (2, .int x2), (3, .int x3), (4, .int x4)] (w_R cI cZ h_p0 h_p0_m h_p0_d h_p0_fresh h_p0_young h_p0_dropped h_p0_released h_p0_owed h_p0_counted h_p0_inMemory h_p0_onDisk h_p0_thn mem dsk fresh young dropped released owed counted inMemory onDisk thn moved) := by
  obtain ⟨cf, hr, hlk, hK, hN, hA⟩ := cx
  have hx := cf.1
  have hb := cf.2.1
  have hown := cf.2.2.2.1
  have ht : ∀ w ∈ wA, w.before args s = true := fun w h => cf.2.2.2.2 w (List.mem_cons_of_mem _ h)
  intro n
  induction n with
  | zero => intro x2 x3 x4 h; cases (show (none : Option (Int32)) = some _ from h)
  | succ n ih =>
    intro x2 x3 x4 h H locs ls hl hP hD hS
    unfold s_R_find_14 at h
    refine lv_iload hx hb d_R_find_14 (lv_at hl 3 rfl) ?_
    refine lv_bipush (v := (nI 8)) hx hb d_R_find_16 (by decide) ?_
    refine lv_icmp_ge hx hb d_R_find_18 rfl (fun hc => ?_) (fun hc => ?_)
    · rw [if_pos hc] at h
      refine lv_iconst (v := (-1)) hx hb d_R_find_49 (by decide) ?_
      cases h
      exact sc_iret cf hr hlk hK hP hD hS d_R_find_50
    · rw [if_neg hc] at h
      refine lv_aload_n hx hb d_R_find_21 rfl (lv_at hl 0 rfl) ?_
      refine va_get (D := D) (ci := 2) (v := .ref h_p0_m) (C := R_R) (T := F_R) (N := 12) hx hb ht in_R hown hK hP 0 rfl rfl 0 (by decide) (ht _ f_R_7) (fun _ h9 => h9) rfl d_R_find_22 ?_
      refine lv_bipush (v := (nI 30)) hx hb d_R_find_25 (by decide) ?_
      refine lv_iload_n hx hb d_R_find_27 rfl (lv_at hl 2 rfl) ?_
      refine lv_imul hx hb d_R_find_28 ?_
      refine lv_iload hx hb d_R_find_29 (lv_at hl 3 rfl) ?_
      refine lv_iadd hx hb d_R_find_31 ?_
      obtain ⟨hin, h⟩ := gr_some h
      refine va_iald hx hb hK hP 1 0 rfl rfl hin d_R_find_32 ?_
      generalize mem (((nI 30) * x3) + x4).toNatClampNeg = v32 at h ⊢
      refine lv_bipush (v := (nI 32)) hx hb d_R_find_33 (by decide) ?_
      refine lv_idiv hx hb d_R_find_35 (by decide) ?_
      refine lv_iload_n hx hb d_R_find_36 rfl (lv_at hl 1 rfl) ?_
      refine lv_icmp_ne hx hb d_R_find_37 rfl (fun hc => ?_) (fun hc => ?_)
      · rw [if_neg hc] at h
        refine lv_iinc (k := 3) (v := (x4 + (nI 1))) (lv' := [(4, .int (x4 + (nI 1))), (0, .ref h_p0), (2, .int x2), (3, .int x3)]) hx hb d_R_find_43 hl rfl rfl (by decide) rfl (fun ls hl => ?_)
        refine lv_goto hx hb d_R_find_46 rfl ?_
        exact ih x2 x3 (x4 + (nI 1)) h H locs ls (lv_sub hl [1, 2, 3, 0] rfl) hP hD hS
      · rw [if_pos hc] at h
        refine lv_iload hx hb d_R_find_40 (lv_at hl 3 rfl) ?_
        cases h
        exact sc_iret cf hr hlk hK hP hD hS d_R_find_42
set_option maxHeartbeats 4000000 in
set_option maxRecDepth 100000 in
theorem c_R_find (l : Launch) (D : va_G) (cI cZ : ClassId) (h_p0 h_p0_m h_p0_d h_p0_fresh h_p0_young h_p0_dropped h_p0_released h_p0_owed h_p0_counted h_p0_inMemory h_p0_onDisk h_p0_thn : Nat) (F : Nat) (mem : (Nat → Int32)) (dsk : (Nat → Int32)) (fresh : (Nat → Int32)) (young : (Nat → Int32)) (dropped : (Nat → Int32)) (released : (Nat → Int32)) (owed : (Nat → Int32)) (counted : (Nat → Int32)) (inMemory : (Nat → Int32)) (onDisk : (Nat → Int32)) (thn : (Nat → Int32)) (moved : Int32) (x1 : Int32) (x2 : Int32) (r : Int32) (h : s_R_find F mem x1 x2 = some r) : sc_i l y_R_find (o_R_find :: wA) rm_R_find D cI cZ [.ref h_p0, .int x1, .int x2] (w_R cI cZ h_p0 h_p0_m h_p0_d h_p0_fresh h_p0_young h_p0_dropped h_p0_released h_p0_owed h_p0_counted h_p0_inMemory h_p0_onDisk h_p0_thn mem dsk fresh young dropped released owed counted inMemory onDisk thn moved) (w_R cI cZ h_p0 h_p0_m h_p0_d h_p0_fresh h_p0_young h_p0_dropped h_p0_released h_p0_owed h_p0_counted h_p0_inMemory h_p0_onDisk h_p0_thn mem dsk fresh young dropped released owed counted inMemory onDisk thn moved) r := by
  refine sc_i_of (cc := b_R_find) (maxL := 5) (ret := (some .int)) (by decide) rfl (Nat.le_of_ble_eq_true rfl) ?_
  intro p e s m below meth c A cf hr hlk hK hN hA H locs ls hl hP hD hS
  have hx := cf.1
  have hb := cf.2.1
  have hown := cf.2.2.2.1
  have ht : ∀ w ∈ wA, w.before _ s = true := fun w h => cf.2.2.2.2 w (List.mem_cons_of_mem _ h)
  unfold s_R_find at h
  have hl : lv_has ls 5 [(0, .ref h_p0), (1, .int x1), (2, .int x2)] := hl
  refine lv_aload_n hx hb d_R_find_0 rfl (lv_at hl 0 rfl) ?_
  refine va_get (D := D) (ci := 2) (v := .ref h_p0_m) (C := R_R) (T := F_R) (N := 12) hx hb ht in_R hown hK hP 0 rfl rfl 0 (by decide) (ht _ f_R_7) (fun _ h9 => h9) rfl d_R_find_1 ?_
  refine lv_iload_n hx hb d_R_find_4 rfl (lv_at hl 1 rfl) ?_
  refine lv_iconst (v := (nI 2)) hx hb d_R_find_5 (by decide) ?_
  obtain ⟨r6, h6, h⟩ := bd_some h
  refine wk_Si (As := [.int x1, .int (nI 2)]) (rest := [.ref h_p0_m]) (wc := []) (w1 := []) (wr := [(h_p0, .inr (2, [.ref h_p0_m, .ref h_p0_d, .ref h_p0_fresh, .ref h_p0_young, .ref h_p0_dropped, .ref h_p0_released, .ref h_p0_owed, .ref h_p0_counted, .ref h_p0_inMemory, .ref h_p0_onDisk, .ref h_p0_thn, .int moved])), (h_p0_m, .inl (cI, 1080, .inl mem)), (h_p0_d, .inl (cI, 1080, .inl dsk)), (h_p0_fresh, .inl (cZ, 36, .inl fresh)), (h_p0_young, .inl (cZ, 288, .inl young)), (h_p0_dropped, .inl (cI, 36, .inl dropped)), (h_p0_released, .inl (cZ, 18, .inl released)), (h_p0_owed, .inl (cI, 18, .inl owed)), (h_p0_counted, .inl (cI, 18, .inl counted)), (h_p0_inMemory, .inl (cZ, 18, .inl inMemory)), (h_p0_onDisk, .inl (cZ, 18, .inl onDisk)), (h_p0_thn, .inl (cZ, 18, .inl thn))]) (wz := (w_R cI cZ h_p0 h_p0_m h_p0_d h_p0_fresh h_p0_young h_p0_dropped h_p0_released h_p0_owed h_p0_counted h_p0_inMemory h_p0_onDisk h_p0_thn mem dsk fresh young dropped released owed counted inMemory onDisk thn moved)) cf hK hN hA (c_R_at l D cI cZ 0 x1 (nI 2) r6 h6) k_R_44 ⟨rfl, rfl, by decide, by decide⟩ hl hP hD hS [] [0, 1, 2, 3, 4, 5, 6, 7, 8, 9, 10, 11] [0, 1, 2, 3, 4, 5, 6, 7, 8, 9, 10, 11] rfl rfl rfl (by decide) rfl rfl rfl rfl rfl (Nat.le_of_ble_eq_true rfl) rfl d_R_find_6 (fun H locs hP hD hS => ?_)
  obtain ⟨hin, h⟩ := gr_some h
  refine va_iald hx hb hK hP 1 0 rfl rfl hin d_R_find_9 ?_
  generalize mem r6.toNatClampNeg = v9 at h ⊢
  refine lv_istore_n (lv' := [(3, .int v9), (0, .ref h_p0), (1, .int x1), (2, .int x2)]) hx hb d_R_find_10 rfl hl (by decide) rfl (fun ls hl => ?_)
  refine lv_iconst (v := (nI 0)) hx hb d_R_find_11 (by decide) ?_
  refine lv_istore (lv' := [(4, .int (nI 0)), (3, .int v9), (0, .ref h_p0), (1, .int x1), (2, .int x2)]) hx hb d_R_find_12 hl (by decide) rfl (fun ls hl => ?_)
  exact w_R_find_14 h_p0 h_p0_m h_p0_d h_p0_fresh h_p0_young h_p0_dropped h_p0_released h_p0_owed h_p0_counted h_p0_inMemory h_p0_onDisk h_p0_thn F mem dsk fresh young dropped released owed counted inMemory onDisk thn moved r ⟨cf, hr, hlk, hK, hN, hA⟩ F x2 v9 (nI 0) h H locs ls (lv_sub hl [2, 4, 1, 0] rfl) hP hD hS
set_option maxHeartbeats 4000000 in
set_option maxRecDepth 100000 in
theorem w_R_entries_16 {p : Program} {l : Launch} {e : Env} {s : State} {m : MethodId} {args : Array Value} {below : List Frame} {meth : Method} {c : Code} {D : va_G} {cI cZ : ClassId} {A : Nat → Prop} (h_p0 h_p0_m h_p0_d h_p0_fresh h_p0_young h_p0_dropped h_p0_released h_p0_owed h_p0_counted h_p0_inMemory h_p0_onDisk h_p0_thn : Nat) (F : Nat) (mem : (Nat → Int32)) (dsk : (Nat → Int32)) (fresh : (Nat → Int32)) (young : (Nat → Int32)) (dropped : (Nat → Int32)) (released : (Nat → Int32)) (owed : (Nat → Int32)) (counted : (Nat → Int32)) (inMemory : (Nat → Int32)) (onDisk : (Nat → Int32)) (thn : (Nat → Int32)) (moved : Int32) (r : Int32) (cx : cx_ok p s m args meth c b_R_entries 5 o_R_entries "OrderedVolumeModel" (some .int) D cI cZ A) : ∀ (n : Nat) (x2 : Int32) (x3 : Int32) (x4 : Int32), s_R_entries_16 F mem n x2 x3 x4 = some r → wk_G p l e rm_R_entries s m args below meth c (sc_Qi below args s D cI cZ A (w_R cI cZ h_p0 h_p0_m h_p0_d h_p0_fresh h_p0_young h_p0_dropped h_p0_released h_p0_owed h_p0_counted h_p0_inMemory h_p0_onDisk h_p0_thn mem dsk fresh young dropped released owed counted inMemory onDisk thn moved) r) D A 5 16 [] [(0, .ref h_p0), (2, .int x2), (3, .int x3), (4, .int x4)] (w_R cI cZ h_p0 h_p0_m h_p0_d h_p0_fresh h_p0_young h_p0_dropped h_p0_released h_p0_owed h_p0_counted h_p0_inMemory h_p0_onDisk h_p0_thn mem dsk fresh young dropped released owed counted inMemory onDisk thn moved) := by
  obtain ⟨cf, hr, hlk, hK, hN, hA⟩ := cx
  have hx := cf.1
  have hb := cf.2.1
  have hown := cf.2.2.2.1
  have ht : ∀ w ∈ wA, w.before args s = true := fun w h => cf.2.2.2.2 w (List.mem_cons_of_mem _ h)
  intro n
  induction n with
  | zero => intro x2 x3 x4 h; cases (show (none : Option (Int32)) = some _ from h)
  | succ n ih =>
    intro x2 x3 x4 h H locs ls hl hP hD hS
    unfold s_R_entries_16 at h
    refine lv_iload hx hb d_R_entries_16 (lv_at hl 3 rfl) ?_
    refine lv_bipush (v := (nI 8)) hx hb d_R_entries_18 (by decide) ?_
    refine lv_icmp_ge hx hb d_R_entries_20 rfl (fun hc => ?_) (fun hc => ?_)
    · rw [if_pos hc] at h
      refine lv_iload_n hx hb d_R_entries_52 rfl (lv_at hl 2 rfl) ?_
      cases h
      exact sc_iret cf hr hlk hK hP hD hS d_R_entries_53
    · rw [if_neg hc] at h
      refine lv_aload_n hx hb d_R_entries_23 rfl (lv_at hl 0 rfl) ?_
      refine va_get (D := D) (ci := 2) (v := .ref h_p0_m) (C := R_R) (T := F_R) (N := 12) hx hb ht in_R hown hK hP 0 rfl rfl 0 (by decide) (ht _ f_R_7) (fun _ h9 => h9) rfl d_R_entries_24 ?_
      refine lv_bipush (v := (nI 30)) hx hb d_R_entries_27 (by decide) ?_
      refine lv_iload_n hx hb d_R_entries_29 rfl (lv_at hl 1 rfl) ?_
      refine lv_imul hx hb d_R_entries_30 ?_
      refine lv_iload hx hb d_R_entries_31 (lv_at hl 3 rfl) ?_
      refine lv_iadd hx hb d_R_entries_33 ?_
      obtain ⟨hin, h⟩ := gr_some h
      refine va_iald hx hb hK hP 1 0 rfl rfl hin d_R_entries_34 ?_
      generalize mem (((nI 30) * x2) + x4).toNatClampNeg = v34 at h ⊢
      refine lv_if_eq hx hb d_R_entries_35 rfl (fun hc => ?_) (fun hc => ?_)
      · rw [if_pos hc] at h
        refine lv_iload_n hx hb d_R_entries_44 rfl (lv_at hl 2 rfl) ?_
        refine lv_istore_n (lv' := [(3, .int x3), (0, .ref h_p0), (2, .int x2), (4, .int x4)]) hx hb d_R_entries_45 rfl hl (by decide) rfl (fun ls hl => ?_)
        refine lv_iinc (k := 3) (v := (x4 + (nI 1))) (lv' := [(4, .int (x4 + (nI 1))), (3, .int x3), (0, .ref h_p0), (2, .int x2)]) hx hb d_R_entries_46 hl rfl rfl (by decide) rfl (fun ls hl => ?_)
        refine lv_goto hx hb d_R_entries_49 rfl ?_
        exact ih x2 x3 (x4 + (nI 1)) h H locs ls (lv_sub hl [2, 3, 1, 0] rfl) hP hD hS
      · rw [if_neg hc] at h
        refine lv_iload_n hx hb d_R_entries_38 rfl (lv_at hl 2 rfl) ?_
        refine lv_iconst (v := (nI 1)) hx hb d_R_entries_39 (by decide) ?_
        refine lv_iadd hx hb d_R_entries_40 ?_
        refine lv_goto hx hb d_R_entries_41 rfl ?_
        refine lv_istore_n (lv' := [(3, .int (x3 + (nI 1))), (0, .ref h_p0), (2, .int x2), (4, .int x4)]) hx hb d_R_entries_45 rfl hl (by decide) rfl (fun ls hl => ?_)
        refine lv_iinc (k := 3) (v := (x4 + (nI 1))) (lv' := [(4, .int (x4 + (nI 1))), (3, .int (x3 + (nI 1))), (0, .ref h_p0), (2, .int x2)]) hx hb d_R_entries_46 hl rfl rfl (by decide) rfl (fun ls hl => ?_)
        refine lv_goto hx hb d_R_entries_49 rfl ?_
        exact ih x2 (x3 + (nI 1)) (x4 + (nI 1)) h H locs ls (lv_sub hl [2, 3, 1, 0] rfl) hP hD hS
set_option maxHeartbeats 4000000 in
set_option maxRecDepth 100000 in
theorem c_R_entries (l : Launch) (D : va_G) (cI cZ : ClassId) (h_p0 h_p0_m h_p0_d h_p0_fresh h_p0_young h_p0_dropped h_p0_released h_p0_owed h_p0_counted h_p0_inMemory h_p0_onDisk h_p0_thn : Nat) (F : Nat) (mem : (Nat → Int32)) (dsk : (Nat → Int32)) (fresh : (Nat → Int32)) (young : (Nat → Int32)) (dropped : (Nat → Int32)) (released : (Nat → Int32)) (owed : (Nat → Int32)) (counted : (Nat → Int32)) (inMemory : (Nat → Int32)) (onDisk : (Nat → Int32)) (thn : (Nat → Int32)) (moved : Int32) (x1 : Int32) (r : Int32) (h : s_R_entries F mem x1 = some r) : sc_i l y_R_entries (o_R_entries :: wA) rm_R_entries D cI cZ [.ref h_p0, .int x1] (w_R cI cZ h_p0 h_p0_m h_p0_d h_p0_fresh h_p0_young h_p0_dropped h_p0_released h_p0_owed h_p0_counted h_p0_inMemory h_p0_onDisk h_p0_thn mem dsk fresh young dropped released owed counted inMemory onDisk thn moved) (w_R cI cZ h_p0 h_p0_m h_p0_d h_p0_fresh h_p0_young h_p0_dropped h_p0_released h_p0_owed h_p0_counted h_p0_inMemory h_p0_onDisk h_p0_thn mem dsk fresh young dropped released owed counted inMemory onDisk thn moved) r := by
  refine sc_i_of (cc := b_R_entries) (maxL := 5) (ret := (some .int)) (by decide) rfl (Nat.le_of_ble_eq_true rfl) ?_
  intro p e s m below meth c A cf hr hlk hK hN hA H locs ls hl hP hD hS
  have hx := cf.1
  have hb := cf.2.1
  have hown := cf.2.2.2.1
  have ht : ∀ w ∈ wA, w.before _ s = true := fun w h => cf.2.2.2.2 w (List.mem_cons_of_mem _ h)
  unfold s_R_entries at h
  have hl : lv_has ls 5 [(0, .ref h_p0), (1, .int x1)] := hl
  refine lv_aload_n hx hb d_R_entries_0 rfl (lv_at hl 0 rfl) ?_
  refine va_get (D := D) (ci := 2) (v := .ref h_p0_m) (C := R_R) (T := F_R) (N := 12) hx hb ht in_R hown hK hP 0 rfl rfl 0 (by decide) (ht _ f_R_7) (fun _ h9 => h9) rfl d_R_entries_1 ?_
  refine lv_iload_n hx hb d_R_entries_4 rfl (lv_at hl 1 rfl) ?_
  refine lv_iconst (v := (nI 2)) hx hb d_R_entries_5 (by decide) ?_
  obtain ⟨r6, h6, h⟩ := bd_some h
  refine wk_Si (As := [.int x1, .int (nI 2)]) (rest := [.ref h_p0_m]) (wc := []) (w1 := []) (wr := [(h_p0, .inr (2, [.ref h_p0_m, .ref h_p0_d, .ref h_p0_fresh, .ref h_p0_young, .ref h_p0_dropped, .ref h_p0_released, .ref h_p0_owed, .ref h_p0_counted, .ref h_p0_inMemory, .ref h_p0_onDisk, .ref h_p0_thn, .int moved])), (h_p0_m, .inl (cI, 1080, .inl mem)), (h_p0_d, .inl (cI, 1080, .inl dsk)), (h_p0_fresh, .inl (cZ, 36, .inl fresh)), (h_p0_young, .inl (cZ, 288, .inl young)), (h_p0_dropped, .inl (cI, 36, .inl dropped)), (h_p0_released, .inl (cZ, 18, .inl released)), (h_p0_owed, .inl (cI, 18, .inl owed)), (h_p0_counted, .inl (cI, 18, .inl counted)), (h_p0_inMemory, .inl (cZ, 18, .inl inMemory)), (h_p0_onDisk, .inl (cZ, 18, .inl onDisk)), (h_p0_thn, .inl (cZ, 18, .inl thn))]) (wz := (w_R cI cZ h_p0 h_p0_m h_p0_d h_p0_fresh h_p0_young h_p0_dropped h_p0_released h_p0_owed h_p0_counted h_p0_inMemory h_p0_onDisk h_p0_thn mem dsk fresh young dropped released owed counted inMemory onDisk thn moved)) cf hK hN hA (c_R_at l D cI cZ 0 x1 (nI 2) r6 h6) k_R_44 ⟨rfl, rfl, by decide, by decide⟩ hl hP hD hS [] [0, 1, 2, 3, 4, 5, 6, 7, 8, 9, 10, 11] [0, 1, 2, 3, 4, 5, 6, 7, 8, 9, 10, 11] rfl rfl rfl (by decide) rfl rfl rfl rfl rfl (Nat.le_of_ble_eq_true rfl) rfl d_R_entries_6 (fun H locs hP hD hS => ?_)
  obtain ⟨hin, h⟩ := gr_some h
  refine va_iald hx hb hK hP 1 0 rfl rfl hin d_R_entries_9 ?_
  generalize mem r6.toNatClampNeg = v9 at h ⊢
  refine lv_istore_n (lv' := [(2, .int v9), (0, .ref h_p0), (1, .int x1)]) hx hb d_R_entries_10 rfl hl (by decide) rfl (fun ls hl => ?_)
  refine lv_iconst (v := (nI 0)) hx hb d_R_entries_11 (by decide) ?_
  refine lv_istore_n (lv' := [(3, .int (nI 0)), (2, .int v9), (0, .ref h_p0), (1, .int x1)]) hx hb d_R_entries_12 rfl hl (by decide) rfl (fun ls hl => ?_)
  refine lv_iconst (v := (nI 0)) hx hb d_R_entries_13 (by decide) ?_
  refine lv_istore (lv' := [(4, .int (nI 0)), (3, .int (nI 0)), (2, .int v9), (0, .ref h_p0), (1, .int x1)]) hx hb d_R_entries_14 hl (by decide) rfl (fun ls hl => ?_)
  exact w_R_entries_16 h_p0 h_p0_m h_p0_d h_p0_fresh h_p0_young h_p0_dropped h_p0_released h_p0_owed h_p0_counted h_p0_inMemory h_p0_onDisk h_p0_thn F mem dsk fresh young dropped released owed counted inMemory onDisk thn moved r ⟨cf, hr, hlk, hK, hN, hA⟩ F v9 (nI 0) (nI 0) h H locs ls (lv_sub hl [3, 2, 1, 0] rfl) hP hD hS
set_option maxHeartbeats 4000000 in
set_option maxRecDepth 100000 in
theorem c_R_markOfInode (l : Launch) (D : va_G) (cI cZ : ClassId) (z : Nat) (x0 : Int32) (r : Int32) (h : s_R_markOfInode x0 = some r) : sc_i l y_R_markOfInode (o_R_markOfInode :: wA) rm_R_markOfInode D cI cZ [.int x0] [] [] r := by
  refine sc_i_of (cc := b_R_markOfInode) (maxL := 1) (ret := (some .int)) (by decide) rfl (Nat.le_of_ble_eq_true rfl) ?_
  intro p e s m below meth c A cf hr hlk hK hN hA H locs ls hl hP hD hS
  have hx := cf.1
  have hb := cf.2.1
  have hown := cf.2.2.2.1
  have ht : ∀ w ∈ wA, w.before _ s = true := fun w h => cf.2.2.2.2 w (List.mem_cons_of_mem _ h)
  unfold s_R_markOfInode at h
  have hl : lv_has ls 1 [(0, .int x0)] := hl
  refine lv_iload_n hx hb d_R_markOfInode_0 rfl (lv_at hl 0 rfl) ?_
  refine lv_bipush (v := (nI 6)) hx hb d_R_markOfInode_1 (by decide) ?_
  refine lv_idiv hx hb d_R_markOfInode_3 (by decide) ?_
  refine lv_bipush (v := (nI 12)) hx hb d_R_markOfInode_4 (by decide) ?_
  refine lv_imul hx hb d_R_markOfInode_6 ?_
  refine lv_bipush (v := (nI 30)) hx hb d_R_markOfInode_7 (by decide) ?_
  refine lv_imul hx hb d_R_markOfInode_9 ?_
  refine lv_iload_n hx hb d_R_markOfInode_10 rfl (lv_at hl 0 rfl) ?_
  refine lv_bipush (v := (nI 6)) hx hb d_R_markOfInode_11 (by decide) ?_
  refine lv_irem hx hb d_R_markOfInode_13 (by decide) ?_
  refine lv_iadd hx hb d_R_markOfInode_14 ?_
  cases h
  exact sc_iret cf hr hlk hK hP hD hS d_R_markOfInode_15
set_option maxHeartbeats 4000000 in
set_option maxRecDepth 100000 in
theorem w_R_freeInode_29 {p : Program} {l : Launch} {e : Env} {s : State} {m : MethodId} {args : Array Value} {below : List Frame} {meth : Method} {c : Code} {D : va_G} {cI cZ : ClassId} {A : Nat → Prop} (h_p0 h_p0_m h_p0_d h_p0_fresh h_p0_young h_p0_dropped h_p0_released h_p0_owed h_p0_counted h_p0_inMemory h_p0_onDisk h_p0_thn : Nat) (mem : (Nat → Int32)) (dsk : (Nat → Int32)) (fresh : (Nat → Int32)) (young : (Nat → Int32)) (dropped : (Nat → Int32)) (released : (Nat → Int32)) (owed : (Nat → Int32)) (counted : (Nat → Int32)) (inMemory : (Nat → Int32)) (onDisk : (Nat → Int32)) (thn : (Nat → Int32)) (moved : Int32) (r : Int32) (cx : cx_ok p s m args meth c b_R_freeInode 2 o_R_freeInode "OrderedVolumeModel" (some .boolean) D cI cZ A) : s_R_freeInode_29 mem = some r → wk_G p l e rm_R_freeInode s m args below meth c (sc_Qi below args s D cI cZ A (w_R cI cZ h_p0 h_p0_m h_p0_d h_p0_fresh h_p0_young h_p0_dropped h_p0_released h_p0_owed h_p0_counted h_p0_inMemory h_p0_onDisk h_p0_thn mem dsk fresh young dropped released owed counted inMemory onDisk thn moved) r) D A 2 29 [] [(0, .ref h_p0)] (w_R cI cZ h_p0 h_p0_m h_p0_d h_p0_fresh h_p0_young h_p0_dropped h_p0_released h_p0_owed h_p0_counted h_p0_inMemory h_p0_onDisk h_p0_thn mem dsk fresh young dropped released owed counted inMemory onDisk thn moved) := by
  obtain ⟨cf, hr, hlk, hK, hN, hA⟩ := cx
  have hx := cf.1
  have hb := cf.2.1
  have hown := cf.2.2.2.1
  have ht : ∀ w ∈ wA, w.before args s = true := fun w h => cf.2.2.2.2 w (List.mem_cons_of_mem _ h)
  intro  h H locs ls hl hP hD hS
  unfold s_R_freeInode_29 at h
  refine lv_iconst (v := (nI 0)) hx hb d_R_freeInode_29 (by decide) ?_
  have hz : ((nI 0) : Int32) = 0 ∨ ((nI 0) : Int32) = 1 := by decide
  cases h
  exact sc_zret cf hr hlk hz hK hP hD hS d_R_freeInode_30
set_option maxHeartbeats 4000000 in
set_option maxRecDepth 100000 in
theorem c_R_freeInode (l : Launch) (D : va_G) (cI cZ : ClassId) (h_p0 h_p0_m h_p0_d h_p0_fresh h_p0_young h_p0_dropped h_p0_released h_p0_owed h_p0_counted h_p0_inMemory h_p0_onDisk h_p0_thn : Nat) (mem : (Nat → Int32)) (dsk : (Nat → Int32)) (fresh : (Nat → Int32)) (young : (Nat → Int32)) (dropped : (Nat → Int32)) (released : (Nat → Int32)) (owed : (Nat → Int32)) (counted : (Nat → Int32)) (inMemory : (Nat → Int32)) (onDisk : (Nat → Int32)) (thn : (Nat → Int32)) (moved : Int32) (x1 : Int32) (r : Int32) (h : s_R_freeInode mem x1 = some r) : sc_i l y_R_freeInode (o_R_freeInode :: wA) rm_R_freeInode D cI cZ [.ref h_p0, .int x1] (w_R cI cZ h_p0 h_p0_m h_p0_d h_p0_fresh h_p0_young h_p0_dropped h_p0_released h_p0_owed h_p0_counted h_p0_inMemory h_p0_onDisk h_p0_thn mem dsk fresh young dropped released owed counted inMemory onDisk thn moved) (w_R cI cZ h_p0 h_p0_m h_p0_d h_p0_fresh h_p0_young h_p0_dropped h_p0_released h_p0_owed h_p0_counted h_p0_inMemory h_p0_onDisk h_p0_thn mem dsk fresh young dropped released owed counted inMemory onDisk thn moved) r := by
  refine sc_i_of (cc := b_R_freeInode) (maxL := 2) (ret := (some .boolean)) (by decide) rfl (Nat.le_of_ble_eq_true rfl) ?_
  intro p e s m below meth c A cf hr hlk hK hN hA H locs ls hl hP hD hS
  have hx := cf.1
  have hb := cf.2.1
  have hown := cf.2.2.2.1
  have ht : ∀ w ∈ wA, w.before _ s = true := fun w h => cf.2.2.2.2 w (List.mem_cons_of_mem _ h)
  unfold s_R_freeInode at h
  have hl : lv_has ls 2 [(0, .ref h_p0), (1, .int x1)] := hl
  refine lv_aload_n hx hb d_R_freeInode_0 rfl (lv_at hl 0 rfl) ?_
  refine va_get (D := D) (ci := 2) (v := .ref h_p0_m) (C := R_R) (T := F_R) (N := 12) hx hb ht in_R hown hK hP 0 rfl rfl 0 (by decide) (ht _ f_R_7) (fun _ h9 => h9) rfl d_R_freeInode_1 ?_
  refine lv_iload_n hx hb d_R_freeInode_4 rfl (lv_at hl 1 rfl) ?_
  obtain ⟨r5, h5, h⟩ := bd_some h
  refine wk_Si (As := [.int x1]) (rest := [.ref h_p0_m]) (wc := []) (w1 := []) (wr := [(h_p0, .inr (2, [.ref h_p0_m, .ref h_p0_d, .ref h_p0_fresh, .ref h_p0_young, .ref h_p0_dropped, .ref h_p0_released, .ref h_p0_owed, .ref h_p0_counted, .ref h_p0_inMemory, .ref h_p0_onDisk, .ref h_p0_thn, .int moved])), (h_p0_m, .inl (cI, 1080, .inl mem)), (h_p0_d, .inl (cI, 1080, .inl dsk)), (h_p0_fresh, .inl (cZ, 36, .inl fresh)), (h_p0_young, .inl (cZ, 288, .inl young)), (h_p0_dropped, .inl (cI, 36, .inl dropped)), (h_p0_released, .inl (cZ, 18, .inl released)), (h_p0_owed, .inl (cI, 18, .inl owed)), (h_p0_counted, .inl (cI, 18, .inl counted)), (h_p0_inMemory, .inl (cZ, 18, .inl inMemory)), (h_p0_onDisk, .inl (cZ, 18, .inl onDisk)), (h_p0_thn, .inl (cZ, 18, .inl thn))]) (wz := (w_R cI cZ h_p0 h_p0_m h_p0_d h_p0_fresh h_p0_young h_p0_dropped h_p0_released h_p0_owed h_p0_counted h_p0_inMemory h_p0_onDisk h_p0_thn mem dsk fresh young dropped released owed counted inMemory onDisk thn moved)) cf hK hN hA (c_R_markOfInode l D cI cZ 0 x1 r5 h5) k_R_48 ⟨rfl, rfl, by decide, by decide⟩ hl hP hD hS [] [0, 1, 2, 3, 4, 5, 6, 7, 8, 9, 10, 11] [0, 1, 2, 3, 4, 5, 6, 7, 8, 9, 10, 11] rfl rfl rfl (by decide) rfl rfl rfl rfl rfl (Nat.le_of_ble_eq_true rfl) rfl d_R_freeInode_5 (fun H locs hP hD hS => ?_)
  obtain ⟨hin, h⟩ := gr_some h
  refine va_iald hx hb hK hP 1 0 rfl rfl hin d_R_freeInode_8 ?_
  generalize mem r5.toNatClampNeg = v8 at h ⊢
  refine lv_if_ne hx hb d_R_freeInode_9 rfl (fun hc => ?_) (fun hc => ?_)
  · rw [if_neg hc] at h
    exact w_R_freeInode_29 h_p0 h_p0_m h_p0_d h_p0_fresh h_p0_young h_p0_dropped h_p0_released h_p0_owed h_p0_counted h_p0_inMemory h_p0_onDisk h_p0_thn mem dsk fresh young dropped released owed counted inMemory onDisk thn moved r ⟨cf, hr, hlk, hK, hN, hA⟩ h H locs ls (lv_sub hl [0] rfl) hP hD hS
  · rw [if_pos hc] at h
    refine lv_aload_n hx hb d_R_freeInode_12 rfl (lv_at hl 0 rfl) ?_
    refine va_get (D := D) (ci := 2) (v := .ref h_p0_m) (C := R_R) (T := F_R) (N := 12) hx hb ht in_R hown hK hP 0 rfl rfl 0 (by decide) (ht _ f_R_7) (fun _ h9 => h9) rfl d_R_freeInode_13 ?_
    refine lv_iload_n hx hb d_R_freeInode_16 rfl (lv_at hl 1 rfl) ?_
    refine lv_iconst (v := (nI 0)) hx hb d_R_freeInode_17 (by decide) ?_
    obtain ⟨r18, h18, h⟩ := bd_some h
    refine wk_Si (As := [.int x1, .int (nI 0)]) (rest := [.ref h_p0_m]) (wc := []) (w1 := []) (wr := [(h_p0, .inr (2, [.ref h_p0_m, .ref h_p0_d, .ref h_p0_fresh, .ref h_p0_young, .ref h_p0_dropped, .ref h_p0_released, .ref h_p0_owed, .ref h_p0_counted, .ref h_p0_inMemory, .ref h_p0_onDisk, .ref h_p0_thn, .int moved])), (h_p0_m, .inl (cI, 1080, .inl mem)), (h_p0_d, .inl (cI, 1080, .inl dsk)), (h_p0_fresh, .inl (cZ, 36, .inl fresh)), (h_p0_young, .inl (cZ, 288, .inl young)), (h_p0_dropped, .inl (cI, 36, .inl dropped)), (h_p0_released, .inl (cZ, 18, .inl released)), (h_p0_owed, .inl (cI, 18, .inl owed)), (h_p0_counted, .inl (cI, 18, .inl counted)), (h_p0_inMemory, .inl (cZ, 18, .inl inMemory)), (h_p0_onDisk, .inl (cZ, 18, .inl onDisk)), (h_p0_thn, .inl (cZ, 18, .inl thn))]) (wz := (w_R cI cZ h_p0 h_p0_m h_p0_d h_p0_fresh h_p0_young h_p0_dropped h_p0_released h_p0_owed h_p0_counted h_p0_inMemory h_p0_onDisk h_p0_thn mem dsk fresh young dropped released owed counted inMemory onDisk thn moved)) cf hK hN hA (c_R_at l D cI cZ 0 x1 (nI 0) r18 h18) k_R_44 ⟨rfl, rfl, by decide, by decide⟩ hl hP hD hS [] [0, 1, 2, 3, 4, 5, 6, 7, 8, 9, 10, 11] [0, 1, 2, 3, 4, 5, 6, 7, 8, 9, 10, 11] rfl rfl rfl (by decide) rfl rfl rfl rfl rfl (Nat.le_of_ble_eq_true rfl) rfl d_R_freeInode_18 (fun H locs hP hD hS => ?_)
    obtain ⟨hin, h⟩ := gr_some h
    refine va_iald hx hb hK hP 1 0 rfl rfl hin d_R_freeInode_21 ?_
    generalize mem r18.toNatClampNeg = v21 at h ⊢
    refine lv_if_ne hx hb d_R_freeInode_22 rfl (fun hc => ?_) (fun hc => ?_)
    · rw [if_neg hc] at h
      exact w_R_freeInode_29 h_p0 h_p0_m h_p0_d h_p0_fresh h_p0_young h_p0_dropped h_p0_released h_p0_owed h_p0_counted h_p0_inMemory h_p0_onDisk h_p0_thn mem dsk fresh young dropped released owed counted inMemory onDisk thn moved r ⟨cf, hr, hlk, hK, hN, hA⟩ h H locs ls (lv_sub hl [0] rfl) hP hD hS
    · rw [if_pos hc] at h
      refine lv_iconst (v := (nI 1)) hx hb d_R_freeInode_25 (by decide) ?_
      refine lv_goto hx hb d_R_freeInode_26 rfl ?_
      have hz : ((nI 1) : Int32) = 0 ∨ ((nI 1) : Int32) = 1 := by decide
      cases h
      exact sc_zret cf hr hlk hz hK hP hD hS d_R_freeInode_30
set_option maxHeartbeats 4000000 in
set_option maxRecDepth 100000 in
theorem w_R_inodeFor_109 {p : Program} {l : Launch} {e : Env} {s : State} {m : MethodId} {args : Array Value} {below : List Frame} {meth : Method} {c : Code} {D : va_G} {cI cZ : ClassId} {A : Nat → Prop} (h_p0 h_p0_m h_p0_d h_p0_fresh h_p0_young h_p0_dropped h_p0_released h_p0_owed h_p0_counted h_p0_inMemory h_p0_onDisk h_p0_thn : Nat) (F : Nat) (mem : (Nat → Int32)) (dsk : (Nat → Int32)) (fresh : (Nat → Int32)) (young : (Nat → Int32)) (dropped : (Nat → Int32)) (released : (Nat → Int32)) (owed : (Nat → Int32)) (counted : (Nat → Int32)) (inMemory : (Nat → Int32)) (onDisk : (Nat → Int32)) (thn : (Nat → Int32)) (moved : Int32) (r : Int32) (cx : cx_ok p s m args meth c b_R_inodeFor 8 o_R_inodeFor "OrderedVolumeModel" (some .int) D cI cZ A) : ∀ (n : Nat) (x3 : Int32) (x5 : Int32), s_R_inodeFor_109 F mem n x3 x5 = some r → wk_G p l e rm_R_inodeFor s m args below meth c (sc_Qi below args s D cI cZ A (w_R cI cZ h_p0 h_p0_m h_p0_d h_p0_fresh h_p0_young h_p0_dropped h_p0_released h_p0_owed h_p0_counted h_p0_inMemory h_p0_onDisk h_p0_thn mem dsk fresh young dropped released owed counted inMemory onDisk thn moved) r) D A 8 109 [] [(0, .ref h_p0), (3, .int x3), (5, .int x5)] (w_R cI cZ h_p0 h_p0_m h_p0_d h_p0_fresh h_p0_young h_p0_dropped h_p0_released h_p0_owed h_p0_counted h_p0_inMemory h_p0_onDisk h_p0_thn mem dsk fresh young dropped released owed counted inMemory onDisk thn moved) := by
  obtain ⟨cf, hr, hlk, hK, hN, hA⟩ := cx
  have hx := cf.1
  have hb := cf.2.1
  have hown := cf.2.2.2.1
  have ht : ∀ w ∈ wA, w.before args s = true := fun w h => cf.2.2.2.2 w (List.mem_cons_of_mem _ h)
  intro n
  induction n with
  | zero => intro x3 x5 h; cases (show (none : Option (Int32)) = some _ from h)
  | succ n ih =>
    intro x3 x5 h H locs ls hl hP hD hS
    unfold s_R_inodeFor_109 at h
    refine lv_iload hx hb d_R_inodeFor_109 (lv_at hl 2 rfl) ?_
    refine lv_bipush (v := (nI 18)) hx hb d_R_inodeFor_111 (by decide) ?_
    refine lv_icmp_ge hx hb d_R_inodeFor_113 rfl (fun hc => ?_) (fun hc => ?_)
    · rw [if_pos hc] at h
      refine lv_iconst (v := (-1)) hx hb d_R_inodeFor_146 (by decide) ?_
      cases h
      exact sc_iret cf hr hlk hK hP hD hS d_R_inodeFor_147
    · rw [if_neg hc] at h
      refine lv_iload_n hx hb d_R_inodeFor_116 rfl (lv_at hl 1 rfl) ?_
      refine lv_bipush (v := (nI 6)) hx hb d_R_inodeFor_117 (by decide) ?_
      refine lv_imul hx hb d_R_inodeFor_119 ?_
      refine lv_iload hx hb d_R_inodeFor_120 (lv_at hl 2 rfl) ?_
      refine lv_iadd hx hb d_R_inodeFor_122 ?_
      refine lv_bipush (v := (nI 18)) hx hb d_R_inodeFor_123 (by decide) ?_
      refine lv_irem hx hb d_R_inodeFor_125 (by decide) ?_
      refine lv_istore (lv' := [(6, .int (((x3 * (nI 6)) + x5) - ((x3 * (nI 6)) + x5) / (nI 18) * (nI 18))), (0, .ref h_p0), (3, .int x3), (5, .int x5)]) hx hb d_R_inodeFor_126 hl (by decide) rfl (fun ls hl => ?_)
      refine lv_aload_n hx hb d_R_inodeFor_128 rfl (lv_at hl 1 rfl) ?_
      refine lv_iload hx hb d_R_inodeFor_129 (lv_at hl 0 rfl) ?_
      obtain ⟨r131, h131, h⟩ := bd_some h
      refine wk_Vi (As := [.int (((x3 * (nI 6)) + x5) - ((x3 * (nI 6)) + x5) / (nI 18) * (nI 18))]) (rest := []) (wc := (w_R cI cZ h_p0 h_p0_m h_p0_d h_p0_fresh h_p0_young h_p0_dropped h_p0_released h_p0_owed h_p0_counted h_p0_inMemory h_p0_onDisk h_p0_thn mem dsk fresh young dropped released owed counted inMemory onDisk thn moved)) (w1 := (w_R cI cZ h_p0 h_p0_m h_p0_d h_p0_fresh h_p0_young h_p0_dropped h_p0_released h_p0_owed h_p0_counted h_p0_inMemory h_p0_onDisk h_p0_thn mem dsk fresh young dropped released owed counted inMemory onDisk thn moved)) (wr := []) (wz := (w_R cI cZ h_p0 h_p0_m h_p0_d h_p0_fresh h_p0_young h_p0_dropped h_p0_released h_p0_owed h_p0_counted h_p0_inMemory h_p0_onDisk h_p0_thn mem dsk fresh young dropped released owed counted inMemory onDisk thn moved)) cf hK hN hA (c_R_freeInode l D cI cZ h_p0 h_p0_m h_p0_d h_p0_fresh h_p0_young h_p0_dropped h_p0_released h_p0_owed h_p0_counted h_p0_inMemory h_p0_onDisk h_p0_thn mem dsk fresh young dropped released owed counted inMemory onDisk thn moved (((x3 * (nI 6)) + x5) - ((x3 * (nI 6)) + x5) / (nI 18) * (nI 18)) r131 h131) k_R_96 ⟨rfl, rfl, by decide, by decide⟩ 2 rfl rfl rfl hl hP hD hS [0, 1, 2, 3, 4, 5, 6, 7, 8, 9, 10, 11] [] [0, 1, 2, 3, 4, 5, 6, 7, 8, 9, 10, 11] rfl rfl rfl (by decide) rfl rfl rfl rfl rfl (Nat.le_of_ble_eq_true rfl) rfl d_R_inodeFor_131 (fun H locs hP hD hS => ?_)
      refine lv_if_eq hx hb d_R_inodeFor_134 rfl (fun hc => ?_) (fun hc => ?_)
      · rw [if_pos hc] at h
        refine lv_iinc (k := 3) (v := (x5 + (nI 1))) (lv' := [(5, .int (x5 + (nI 1))), (6, .int (((x3 * (nI 6)) + x5) - ((x3 * (nI 6)) + x5) / (nI 18) * (nI 18))), (0, .ref h_p0), (3, .int x3)]) hx hb d_R_inodeFor_140 hl rfl rfl (by decide) rfl (fun ls hl => ?_)
        refine lv_goto hx hb d_R_inodeFor_143 rfl ?_
        exact ih x3 (x5 + (nI 1)) h H locs ls (lv_sub hl [2, 3, 0] rfl) hP hD hS
      · rw [if_neg hc] at h
        refine lv_iload hx hb d_R_inodeFor_137 (lv_at hl 0 rfl) ?_
        cases h
        exact sc_iret cf hr hlk hK hP hD hS d_R_inodeFor_139
set_option maxHeartbeats 4000000 in
set_option maxRecDepth 100000 in
theorem w_R_inodeFor_106 {p : Program} {l : Launch} {e : Env} {s : State} {m : MethodId} {args : Array Value} {below : List Frame} {meth : Method} {c : Code} {D : va_G} {cI cZ : ClassId} {A : Nat → Prop} (h_p0 h_p0_m h_p0_d h_p0_fresh h_p0_young h_p0_dropped h_p0_released h_p0_owed h_p0_counted h_p0_inMemory h_p0_onDisk h_p0_thn : Nat) (F : Nat) (mem : (Nat → Int32)) (dsk : (Nat → Int32)) (fresh : (Nat → Int32)) (young : (Nat → Int32)) (dropped : (Nat → Int32)) (released : (Nat → Int32)) (owed : (Nat → Int32)) (counted : (Nat → Int32)) (inMemory : (Nat → Int32)) (onDisk : (Nat → Int32)) (thn : (Nat → Int32)) (moved : Int32) (r : Int32) (cx : cx_ok p s m args meth c b_R_inodeFor 8 o_R_inodeFor "OrderedVolumeModel" (some .int) D cI cZ A) : ∀ (x3 : Int32), s_R_inodeFor_106 F mem x3 = some r → wk_G p l e rm_R_inodeFor s m args below meth c (sc_Qi below args s D cI cZ A (w_R cI cZ h_p0 h_p0_m h_p0_d h_p0_fresh h_p0_young h_p0_dropped h_p0_released h_p0_owed h_p0_counted h_p0_inMemory h_p0_onDisk h_p0_thn mem dsk fresh young dropped released owed counted inMemory onDisk thn moved) r) D A 8 106 [] [(0, .ref h_p0), (3, .int x3)] (w_R cI cZ h_p0 h_p0_m h_p0_d h_p0_fresh h_p0_young h_p0_dropped h_p0_released h_p0_owed h_p0_counted h_p0_inMemory h_p0_onDisk h_p0_thn mem dsk fresh young dropped released owed counted inMemory onDisk thn moved) := by
  obtain ⟨cf, hr, hlk, hK, hN, hA⟩ := cx
  have hx := cf.1
  have hb := cf.2.1
  have hown := cf.2.2.2.1
  have ht : ∀ w ∈ wA, w.before args s = true := fun w h => cf.2.2.2.2 w (List.mem_cons_of_mem _ h)
  intro x3 h H locs ls hl hP hD hS
  unfold s_R_inodeFor_106 at h
  refine lv_iconst (v := (nI 0)) hx hb d_R_inodeFor_106 (by decide) ?_
  refine lv_istore (lv' := [(5, .int (nI 0)), (0, .ref h_p0), (3, .int x3)]) hx hb d_R_inodeFor_107 hl (by decide) rfl (fun ls hl => ?_)
  exact w_R_inodeFor_109 h_p0 h_p0_m h_p0_d h_p0_fresh h_p0_young h_p0_dropped h_p0_released h_p0_owed h_p0_counted h_p0_inMemory h_p0_onDisk h_p0_thn F mem dsk fresh young dropped released owed counted inMemory onDisk thn moved r ⟨cf, hr, hlk, hK, hN, hA⟩ F x3 (nI 0) h H locs ls (lv_sub hl [1, 2, 0] rfl) hP hD hS
set_option maxHeartbeats 4000000 in
set_option maxRecDepth 100000 in
theorem w_R_inodeFor_83 {p : Program} {l : Launch} {e : Env} {s : State} {m : MethodId} {args : Array Value} {below : List Frame} {meth : Method} {c : Code} {D : va_G} {cI cZ : ClassId} {A : Nat → Prop} (h_p0 h_p0_m h_p0_d h_p0_fresh h_p0_young h_p0_dropped h_p0_released h_p0_owed h_p0_counted h_p0_inMemory h_p0_onDisk h_p0_thn : Nat) (F : Nat) (mem : (Nat → Int32)) (dsk : (Nat → Int32)) (fresh : (Nat → Int32)) (young : (Nat → Int32)) (dropped : (Nat → Int32)) (released : (Nat → Int32)) (owed : (Nat → Int32)) (counted : (Nat → Int32)) (inMemory : (Nat → Int32)) (onDisk : (Nat → Int32)) (thn : (Nat → Int32)) (moved : Int32) (r : Int32) (k11 : Int32 → Int32 → Int32 → Int32 → Option (Int32)) (cx : cx_ok p s m args meth c b_R_inodeFor 8 o_R_inodeFor "OrderedVolumeModel" (some .int) D cI cZ A) (h11 : (∀ (x2 : Int32) (x3 : Int32) (x4 : Int32) (x5 : Int32), k11 x2 x3 x4 x5 = some r → wk_G p l e rm_R_inodeFor s m args below meth c (sc_Qi below args s D cI cZ A (w_R cI cZ h_p0 h_p0_m h_p0_d h_p0_fresh h_p0_young h_p0_dropped h_p0_released h_p0_owed h_p0_counted h_p0_inMemory h_p0_onDisk h_p0_thn mem dsk fresh young dropped released owed counted inMemory onDisk thn moved) r) D A 8 11 [] [(0, .ref h_p0), (2, .int x2), (3, .int x3), (4, .int x4), (5, .int x5)] (w_R cI cZ h_p0 h_p0_m h_p0_d h_p0_fresh h_p0_young h_p0_dropped h_p0_released h_p0_owed h_p0_counted h_p0_inMemory h_p0_onDisk h_p0_thn mem dsk fresh young dropped released owed counted inMemory onDisk thn moved))) : ∀ (x2 : Int32) (x4 : Int32) (x5 : Int32) (x6 : Int32) (t0 : Int32), s_R_inodeFor_83 F mem k11 x2 x4 x5 x6 t0 = some r → wk_G p l e rm_R_inodeFor s m args below meth c (sc_Qi below args s D cI cZ A (w_R cI cZ h_p0 h_p0_m h_p0_d h_p0_fresh h_p0_young h_p0_dropped h_p0_released h_p0_owed h_p0_counted h_p0_inMemory h_p0_onDisk h_p0_thn mem dsk fresh young dropped released owed counted inMemory onDisk thn moved) r) D A 8 83 [.int t0] [(0, .ref h_p0), (2, .int x2), (4, .int x4), (5, .int x5), (6, .int x6)] (w_R cI cZ h_p0 h_p0_m h_p0_d h_p0_fresh h_p0_young h_p0_dropped h_p0_released h_p0_owed h_p0_counted h_p0_inMemory h_p0_onDisk h_p0_thn mem dsk fresh young dropped released owed counted inMemory onDisk thn moved) := by
  obtain ⟨cf, hr, hlk, hK, hN, hA⟩ := cx
  have hx := cf.1
  have hb := cf.2.1
  have hown := cf.2.2.2.1
  have ht : ∀ w ∈ wA, w.before args s = true := fun w h => cf.2.2.2.2 w (List.mem_cons_of_mem _ h)
  intro x2 x4 x5 x6 t0 h H locs ls hl hP hD hS
  unfold s_R_inodeFor_83 at h
  refine lv_istore_n (lv' := [(3, .int t0), (0, .ref h_p0), (2, .int x2), (4, .int x4), (5, .int x5), (6, .int x6)]) hx hb d_R_inodeFor_83 rfl hl (by decide) rfl (fun ls hl => ?_)
  refine lv_iload hx hb d_R_inodeFor_84 (lv_at hl 5 rfl) ?_
  refine lv_iload hx hb d_R_inodeFor_86 (lv_at hl 3 rfl) ?_
  refine lv_icmp_le hx hb d_R_inodeFor_88 rfl (fun hc => ?_) (fun hc => ?_)
  · rw [if_pos hc] at h
    refine lv_iload hx hb d_R_inodeFor_96 (lv_at hl 3 rfl) ?_
    refine lv_istore (lv' := [(4, .int x4), (3, .int t0), (0, .ref h_p0), (2, .int x2), (5, .int x5), (6, .int x6)]) hx hb d_R_inodeFor_98 hl (by decide) rfl (fun ls hl => ?_)
    refine lv_iinc (k := 4) (v := (x5 + (nI 1))) (lv' := [(5, .int (x5 + (nI 1))), (4, .int x4), (3, .int t0), (0, .ref h_p0), (2, .int x2), (6, .int x6)]) hx hb d_R_inodeFor_100 hl rfl rfl (by decide) rfl (fun ls hl => ?_)
    refine lv_goto hx hb d_R_inodeFor_103 rfl ?_
    exact h11 x2 t0 x4 (x5 + (nI 1)) h H locs ls (lv_sub hl [3, 4, 2, 1, 0] rfl) hP hD hS
  · rw [if_neg hc] at h
    refine lv_iload hx hb d_R_inodeFor_91 (lv_at hl 5 rfl) ?_
    refine lv_goto hx hb d_R_inodeFor_93 rfl ?_
    refine lv_istore (lv' := [(4, .int x6), (3, .int t0), (0, .ref h_p0), (2, .int x2), (5, .int x5), (6, .int x6)]) hx hb d_R_inodeFor_98 hl (by decide) rfl (fun ls hl => ?_)
    refine lv_iinc (k := 4) (v := (x5 + (nI 1))) (lv' := [(5, .int (x5 + (nI 1))), (4, .int x6), (3, .int t0), (0, .ref h_p0), (2, .int x2), (6, .int x6)]) hx hb d_R_inodeFor_100 hl rfl rfl (by decide) rfl (fun ls hl => ?_)
    refine lv_goto hx hb d_R_inodeFor_103 rfl ?_
    exact h11 x2 t0 x6 (x5 + (nI 1)) h H locs ls (lv_sub hl [3, 4, 2, 1, 0] rfl) hP hD hS
set_option maxHeartbeats 4000000 in
set_option maxRecDepth 100000 in
theorem w_R_inodeFor_31 {p : Program} {l : Launch} {e : Env} {s : State} {m : MethodId} {args : Array Value} {below : List Frame} {meth : Method} {c : Code} {D : va_G} {cI cZ : ClassId} {A : Nat → Prop} (h_p0 h_p0_m h_p0_d h_p0_fresh h_p0_young h_p0_dropped h_p0_released h_p0_owed h_p0_counted h_p0_inMemory h_p0_onDisk h_p0_thn : Nat) (F : Nat) (mem : (Nat → Int32)) (dsk : (Nat → Int32)) (fresh : (Nat → Int32)) (young : (Nat → Int32)) (dropped : (Nat → Int32)) (released : (Nat → Int32)) (owed : (Nat → Int32)) (counted : (Nat → Int32)) (inMemory : (Nat → Int32)) (onDisk : (Nat → Int32)) (thn : (Nat → Int32)) (moved : Int32) (r : Int32) (k11 : Int32 → Int32 → Int32 → Int32 → Option (Int32)) (cx : cx_ok p s m args meth c b_R_inodeFor 8 o_R_inodeFor "OrderedVolumeModel" (some .int) D cI cZ A) (h11 : (∀ (x2 : Int32) (x3 : Int32) (x4 : Int32) (x5 : Int32), k11 x2 x3 x4 x5 = some r → wk_G p l e rm_R_inodeFor s m args below meth c (sc_Qi below args s D cI cZ A (w_R cI cZ h_p0 h_p0_m h_p0_d h_p0_fresh h_p0_young h_p0_dropped h_p0_released h_p0_owed h_p0_counted h_p0_inMemory h_p0_onDisk h_p0_thn mem dsk fresh young dropped released owed counted inMemory onDisk thn moved) r) D A 8 11 [] [(0, .ref h_p0), (2, .int x2), (3, .int x3), (4, .int x4), (5, .int x5)] (w_R cI cZ h_p0 h_p0_m h_p0_d h_p0_fresh h_p0_young h_p0_dropped h_p0_released h_p0_owed h_p0_counted h_p0_inMemory h_p0_onDisk h_p0_thn mem dsk fresh young dropped released owed counted inMemory onDisk thn moved))) : ∀ (n : Nat) (x2 : Int32) (x3 : Int32) (x4 : Int32) (x5 : Int32) (x6 : Int32) (x7 : Int32), s_R_inodeFor_31 F mem k11 n x2 x3 x4 x5 x6 x7 = some r → wk_G p l e rm_R_inodeFor s m args below meth c (sc_Qi below args s D cI cZ A (w_R cI cZ h_p0 h_p0_m h_p0_d h_p0_fresh h_p0_young h_p0_dropped h_p0_released h_p0_owed h_p0_counted h_p0_inMemory h_p0_onDisk h_p0_thn mem dsk fresh young dropped released owed counted inMemory onDisk thn moved) r) D A 8 31 [] [(0, .ref h_p0), (2, .int x2), (3, .int x3), (4, .int x4), (5, .int x5), (6, .int x6), (7, .int x7)] (w_R cI cZ h_p0 h_p0_m h_p0_d h_p0_fresh h_p0_young h_p0_dropped h_p0_released h_p0_owed h_p0_counted h_p0_inMemory h_p0_onDisk h_p0_thn mem dsk fresh young dropped released owed counted inMemory onDisk thn moved) := by
  obtain ⟨cf, hr, hlk, hK, hN, hA⟩ := cx
  have hx := cf.1
  have hb := cf.2.1
  have hown := cf.2.2.2.1
  have ht : ∀ w ∈ wA, w.before args s = true := fun w h => cf.2.2.2.2 w (List.mem_cons_of_mem _ h)
  intro n
  induction n with
  | zero => intro x2 x3 x4 x5 x6 x7 h; cases (show (none : Option (Int32)) = some _ from h)
  | succ n ih =>
    intro x2 x3 x4 x5 x6 x7 h H locs ls hl hP hD hS
    unfold s_R_inodeFor_31 at h
    refine lv_iload hx hb d_R_inodeFor_31 (lv_at hl 6 rfl) ?_
    refine lv_bipush (v := (nI 6)) hx hb d_R_inodeFor_33 (by decide) ?_
    refine lv_iload hx hb d_R_inodeFor_35 (lv_at hl 4 rfl) ?_
    refine lv_imul hx hb d_R_inodeFor_37 ?_
    refine lv_bipush (v := (nI 6)) hx hb d_R_inodeFor_38 (by decide) ?_
    refine lv_iadd hx hb d_R_inodeFor_40 ?_
    refine lv_icmp_ge hx hb d_R_inodeFor_41 rfl (fun hc => ?_) (fun hc => ?_)
    · rw [if_pos hc] at h
      refine lv_iload hx hb d_R_inodeFor_70 (lv_at hl 5 rfl) ?_
      refine lv_iload hx hb d_R_inodeFor_72 (lv_at hl 3 rfl) ?_
      refine lv_icmp_le hx hb d_R_inodeFor_74 rfl (fun hc => ?_) (fun hc => ?_)
      · rw [if_pos hc] at h
        refine lv_iload_n hx hb d_R_inodeFor_82 rfl (lv_at hl 2 rfl) ?_
        exact w_R_inodeFor_83 h_p0 h_p0_m h_p0_d h_p0_fresh h_p0_young h_p0_dropped h_p0_released h_p0_owed h_p0_counted h_p0_inMemory h_p0_onDisk h_p0_thn F mem dsk fresh young dropped released owed counted inMemory onDisk thn moved r _ ⟨cf, hr, hlk, hK, hN, hA⟩ h11 x2 x4 x5 x6 x3 h H locs ls (lv_sub hl [0, 1, 3, 4, 5] rfl) hP hD hS
      · rw [if_neg hc] at h
        refine lv_iload hx hb d_R_inodeFor_77 (lv_at hl 4 rfl) ?_
        refine lv_goto hx hb d_R_inodeFor_79 rfl ?_
        exact w_R_inodeFor_83 h_p0 h_p0_m h_p0_d h_p0_fresh h_p0_young h_p0_dropped h_p0_released h_p0_owed h_p0_counted h_p0_inMemory h_p0_onDisk h_p0_thn F mem dsk fresh young dropped released owed counted inMemory onDisk thn moved r _ ⟨cf, hr, hlk, hK, hN, hA⟩ h11 x2 x4 x5 x6 x5 h H locs ls (lv_sub hl [0, 1, 3, 4, 5] rfl) hP hD hS
    · rw [if_neg hc] at h
      refine lv_aload_n hx hb d_R_inodeFor_44 rfl (lv_at hl 0 rfl) ?_
      refine lv_iload hx hb d_R_inodeFor_45 (lv_at hl 6 rfl) ?_
      obtain ⟨r47, h47, h⟩ := bd_some h
      refine wk_Vi (As := [.int x7]) (rest := []) (wc := (w_R cI cZ h_p0 h_p0_m h_p0_d h_p0_fresh h_p0_young h_p0_dropped h_p0_released h_p0_owed h_p0_counted h_p0_inMemory h_p0_onDisk h_p0_thn mem dsk fresh young dropped released owed counted inMemory onDisk thn moved)) (w1 := (w_R cI cZ h_p0 h_p0_m h_p0_d h_p0_fresh h_p0_young h_p0_dropped h_p0_released h_p0_owed h_p0_counted h_p0_inMemory h_p0_onDisk h_p0_thn mem dsk fresh young dropped released owed counted inMemory onDisk thn moved)) (wr := []) (wz := (w_R cI cZ h_p0 h_p0_m h_p0_d h_p0_fresh h_p0_young h_p0_dropped h_p0_released h_p0_owed h_p0_counted h_p0_inMemory h_p0_onDisk h_p0_thn mem dsk fresh young dropped released owed counted inMemory onDisk thn moved)) cf hK hN hA (c_R_freeInode l D cI cZ h_p0 h_p0_m h_p0_d h_p0_fresh h_p0_young h_p0_dropped h_p0_released h_p0_owed h_p0_counted h_p0_inMemory h_p0_onDisk h_p0_thn mem dsk fresh young dropped released owed counted inMemory onDisk thn moved x7 r47 h47) k_R_96 ⟨rfl, rfl, by decide, by decide⟩ 2 rfl rfl rfl hl hP hD hS [0, 1, 2, 3, 4, 5, 6, 7, 8, 9, 10, 11] [] [0, 1, 2, 3, 4, 5, 6, 7, 8, 9, 10, 11] rfl rfl rfl (by decide) rfl rfl rfl rfl rfl (Nat.le_of_ble_eq_true rfl) rfl d_R_inodeFor_47 (fun H locs hP hD hS => ?_)
      refine lv_if_eq hx hb d_R_inodeFor_50 rfl (fun hc => ?_) (fun hc => ?_)
      · rw [if_pos hc] at h
        refine lv_iload hx hb d_R_inodeFor_60 (lv_at hl 5 rfl) ?_
        refine lv_istore (lv' := [(6, .int x6), (0, .ref h_p0), (2, .int x2), (3, .int x3), (4, .int x4), (5, .int x5), (7, .int x7)]) hx hb d_R_inodeFor_62 hl (by decide) rfl (fun ls hl => ?_)
        refine lv_iinc (k := 6) (v := (x7 + (nI 1))) (lv' := [(7, .int (x7 + (nI 1))), (6, .int x6), (0, .ref h_p0), (2, .int x2), (3, .int x3), (4, .int x4), (5, .int x5)]) hx hb d_R_inodeFor_64 hl rfl rfl (by decide) rfl (fun ls hl => ?_)
        refine lv_goto hx hb d_R_inodeFor_67 rfl ?_
        exact ih x2 x3 x4 x5 x6 (x7 + (nI 1)) h H locs ls (lv_sub hl [2, 3, 4, 5, 6, 1, 0] rfl) hP hD hS
      · rw [if_neg hc] at h
        refine lv_iload hx hb d_R_inodeFor_53 (lv_at hl 5 rfl) ?_
        refine lv_iconst (v := (nI 1)) hx hb d_R_inodeFor_55 (by decide) ?_
        refine lv_iadd hx hb d_R_inodeFor_56 ?_
        refine lv_goto hx hb d_R_inodeFor_57 rfl ?_
        refine lv_istore (lv' := [(6, .int (x6 + (nI 1))), (0, .ref h_p0), (2, .int x2), (3, .int x3), (4, .int x4), (5, .int x5), (7, .int x7)]) hx hb d_R_inodeFor_62 hl (by decide) rfl (fun ls hl => ?_)
        refine lv_iinc (k := 6) (v := (x7 + (nI 1))) (lv' := [(7, .int (x7 + (nI 1))), (6, .int (x6 + (nI 1))), (0, .ref h_p0), (2, .int x2), (3, .int x3), (4, .int x4), (5, .int x5)]) hx hb d_R_inodeFor_64 hl rfl rfl (by decide) rfl (fun ls hl => ?_)
        refine lv_goto hx hb d_R_inodeFor_67 rfl ?_
        exact ih x2 x3 x4 x5 (x6 + (nI 1)) (x7 + (nI 1)) h H locs ls (lv_sub hl [2, 3, 4, 5, 6, 1, 0] rfl) hP hD hS
set_option maxHeartbeats 4000000 in
set_option maxRecDepth 100000 in
theorem w_R_inodeFor_11 {p : Program} {l : Launch} {e : Env} {s : State} {m : MethodId} {args : Array Value} {below : List Frame} {meth : Method} {c : Code} {D : va_G} {cI cZ : ClassId} {A : Nat → Prop} (h_p0 h_p0_m h_p0_d h_p0_fresh h_p0_young h_p0_dropped h_p0_released h_p0_owed h_p0_counted h_p0_inMemory h_p0_onDisk h_p0_thn : Nat) (F : Nat) (mem : (Nat → Int32)) (dsk : (Nat → Int32)) (fresh : (Nat → Int32)) (young : (Nat → Int32)) (dropped : (Nat → Int32)) (released : (Nat → Int32)) (owed : (Nat → Int32)) (counted : (Nat → Int32)) (inMemory : (Nat → Int32)) (onDisk : (Nat → Int32)) (thn : (Nat → Int32)) (moved : Int32) (r : Int32) (cx : cx_ok p s m args meth c b_R_inodeFor 8 o_R_inodeFor "OrderedVolumeModel" (some .int) D cI cZ A) : ∀ (n : Nat) (x2 : Int32) (x3 : Int32) (x4 : Int32) (x5 : Int32), s_R_inodeFor_11 F mem n x2 x3 x4 x5 = some r → wk_G p l e rm_R_inodeFor s m args below meth c (sc_Qi below args s D cI cZ A (w_R cI cZ h_p0 h_p0_m h_p0_d h_p0_fresh h_p0_young h_p0_dropped h_p0_released h_p0_owed h_p0_counted h_p0_inMemory h_p0_onDisk h_p0_thn mem dsk fresh young dropped released owed counted inMemory onDisk thn moved) r) D A 8 11 [] [(0, .ref h_p0), (2, .int x2), (3, .int x3), (4, .int x4), (5, .int x5)] (w_R cI cZ h_p0 h_p0_m h_p0_d h_p0_fresh h_p0_young h_p0_dropped h_p0_released h_p0_owed h_p0_counted h_p0_inMemory h_p0_onDisk h_p0_thn mem dsk fresh young dropped released owed counted inMemory onDisk thn moved) := by
  obtain ⟨cf, hr, hlk, hK, hN, hA⟩ := cx
  have hx := cf.1
  have hb := cf.2.1
  have hown := cf.2.2.2.1
  have ht : ∀ w ∈ wA, w.before args s = true := fun w h => cf.2.2.2.2 w (List.mem_cons_of_mem _ h)
  intro n
  induction n with
  | zero => intro x2 x3 x4 x5 h; cases (show (none : Option (Int32)) = some _ from h)
  | succ n ih =>
    intro x2 x3 x4 x5 h H locs ls hl hP hD hS
    unfold s_R_inodeFor_11 at h
    refine lv_iload hx hb d_R_inodeFor_11 (lv_at hl 4 rfl) ?_
    refine lv_iconst (v := (nI 3)) hx hb d_R_inodeFor_13 (by decide) ?_
    refine lv_icmp_ge hx hb d_R_inodeFor_14 rfl (fun hc => ?_) (fun hc => ?_)
    · rw [if_pos hc] at h
      exact w_R_inodeFor_106 h_p0 h_p0_m h_p0_d h_p0_fresh h_p0_young h_p0_dropped h_p0_released h_p0_owed h_p0_counted h_p0_inMemory h_p0_onDisk h_p0_thn F mem dsk fresh young dropped released owed counted inMemory onDisk thn moved r ⟨cf, hr, hlk, hK, hN, hA⟩ x3 h H locs ls (lv_sub hl [0, 2] rfl) hP hD hS
    · rw [if_neg hc] at h
      refine lv_iload_n hx hb d_R_inodeFor_17 rfl (lv_at hl 1 rfl) ?_
      refine lv_if_eq hx hb d_R_inodeFor_18 rfl (fun hc => ?_) (fun hc => ?_)
      · rw [if_pos hc] at h
        exact w_R_inodeFor_106 h_p0 h_p0_m h_p0_d h_p0_fresh h_p0_young h_p0_dropped h_p0_released h_p0_owed h_p0_counted h_p0_inMemory h_p0_onDisk h_p0_thn F mem dsk fresh young dropped released owed counted inMemory onDisk thn moved r ⟨cf, hr, hlk, hK, hN, hA⟩ x3 h H locs ls (lv_sub hl [0, 2] rfl) hP hD hS
      · rw [if_neg hc] at h
        refine lv_iconst (v := (nI 0)) hx hb d_R_inodeFor_21 (by decide) ?_
        refine lv_istore (lv' := [(6, .int (nI 0)), (0, .ref h_p0), (2, .int x2), (3, .int x3), (4, .int x4), (5, .int x5)]) hx hb d_R_inodeFor_22 hl (by decide) rfl (fun ls hl => ?_)
        refine lv_bipush (v := (nI 6)) hx hb d_R_inodeFor_24 (by decide) ?_
        refine lv_iload hx hb d_R_inodeFor_26 (lv_at hl 5 rfl) ?_
        refine lv_imul hx hb d_R_inodeFor_28 ?_
        refine lv_istore (lv' := [(7, .int ((nI 6) * x5)), (6, .int (nI 0)), (0, .ref h_p0), (2, .int x2), (3, .int x3), (4, .int x4), (5, .int x5)]) hx hb d_R_inodeFor_29 hl (by decide) rfl (fun ls hl => ?_)
        exact w_R_inodeFor_31 h_p0 h_p0_m h_p0_d h_p0_fresh h_p0_young h_p0_dropped h_p0_released h_p0_owed h_p0_counted h_p0_inMemory h_p0_onDisk h_p0_thn F mem dsk fresh young dropped released owed counted inMemory onDisk thn moved r _ ⟨cf, hr, hlk, hK, hN, hA⟩ ih F x2 x3 x4 x5 (nI 0) ((nI 6) * x5) h H locs ls (lv_sub hl [2, 3, 4, 5, 6, 1, 0] rfl) hP hD hS
set_option maxHeartbeats 4000000 in
set_option maxRecDepth 100000 in
theorem c_R_inodeFor (l : Launch) (D : va_G) (cI cZ : ClassId) (h_p0 h_p0_m h_p0_d h_p0_fresh h_p0_young h_p0_dropped h_p0_released h_p0_owed h_p0_counted h_p0_inMemory h_p0_onDisk h_p0_thn : Nat) (F : Nat) (mem : (Nat → Int32)) (dsk : (Nat → Int32)) (fresh : (Nat → Int32)) (young : (Nat → Int32)) (dropped : (Nat → Int32)) (released : (Nat → Int32)) (owed : (Nat → Int32)) (counted : (Nat → Int32)) (inMemory : (Nat → Int32)) (onDisk : (Nat → Int32)) (thn : (Nat → Int32)) (moved : Int32) (x1 : Int32) (x2 : Int32) (r : Int32) (h : s_R_inodeFor F mem x1 x2 = some r) : sc_i l y_R_inodeFor (o_R_inodeFor :: wA) rm_R_inodeFor D cI cZ [.ref h_p0, .int x1, .int x2] (w_R cI cZ h_p0 h_p0_m h_p0_d h_p0_fresh h_p0_young h_p0_dropped h_p0_released h_p0_owed h_p0_counted h_p0_inMemory h_p0_onDisk h_p0_thn mem dsk fresh young dropped released owed counted inMemory onDisk thn moved) (w_R cI cZ h_p0 h_p0_m h_p0_d h_p0_fresh h_p0_young h_p0_dropped h_p0_released h_p0_owed h_p0_counted h_p0_inMemory h_p0_onDisk h_p0_thn mem dsk fresh young dropped released owed counted inMemory onDisk thn moved) r := by
  refine sc_i_of (cc := b_R_inodeFor) (maxL := 8) (ret := (some .int)) (by decide) rfl (Nat.le_of_ble_eq_true rfl) ?_
  intro p e s m below meth c A cf hr hlk hK hN hA H locs ls hl hP hD hS
  have hx := cf.1
  have hb := cf.2.1
  have hown := cf.2.2.2.1
  have ht : ∀ w ∈ wA, w.before _ s = true := fun w h => cf.2.2.2.2 w (List.mem_cons_of_mem _ h)
  unfold s_R_inodeFor at h
  have hl : lv_has ls 8 [(0, .ref h_p0), (1, .int x1), (2, .int x2)] := hl
  refine lv_iload_n hx hb d_R_inodeFor_0 rfl (lv_at hl 1 rfl) ?_
  refine lv_bipush (v := (nI 6)) hx hb d_R_inodeFor_1 (by decide) ?_
  refine lv_idiv hx hb d_R_inodeFor_3 (by decide) ?_
  refine lv_istore_n (lv' := [(3, .int (x1 / (nI 6))), (0, .ref h_p0), (1, .int x1), (2, .int x2)]) hx hb d_R_inodeFor_4 rfl hl (by decide) rfl (fun ls hl => ?_)
  refine lv_iconst (v := (-1)) hx hb d_R_inodeFor_5 (by decide) ?_
  refine lv_istore (lv' := [(4, .int (-1)), (3, .int (x1 / (nI 6))), (0, .ref h_p0), (1, .int x1), (2, .int x2)]) hx hb d_R_inodeFor_6 hl (by decide) rfl (fun ls hl => ?_)
  refine lv_iconst (v := (nI 0)) hx hb d_R_inodeFor_8 (by decide) ?_
  refine lv_istore (lv' := [(5, .int (nI 0)), (4, .int (-1)), (3, .int (x1 / (nI 6))), (0, .ref h_p0), (1, .int x1), (2, .int x2)]) hx hb d_R_inodeFor_9 hl (by decide) rfl (fun ls hl => ?_)
  exact w_R_inodeFor_11 h_p0 h_p0_m h_p0_d h_p0_fresh h_p0_young h_p0_dropped h_p0_released h_p0_owed h_p0_counted h_p0_inMemory h_p0_onDisk h_p0_thn F mem dsk fresh young dropped released owed counted inMemory onDisk thn moved r ⟨cf, hr, hlk, hK, hN, hA⟩ F x2 (x1 / (nI 6)) (-1) (nI 0) h H locs ls (lv_sub hl [3, 5, 2, 1, 0] rfl) hP hD hS
set_option maxHeartbeats 4000000 in
set_option maxRecDepth 100000 in
theorem w_R_place_13 {p : Program} {l : Launch} {e : Env} {s : State} {m : MethodId} {args : Array Value} {below : List Frame} {meth : Method} {c : Code} {D : va_G} {cI cZ : ClassId} {A : Nat → Prop} (h_p0 h_p0_m h_p0_d h_p0_fresh h_p0_young h_p0_dropped h_p0_released h_p0_owed h_p0_counted h_p0_inMemory h_p0_onDisk h_p0_thn : Nat) (F : Nat) (mem : (Nat → Int32)) (dsk : (Nat → Int32)) (fresh : (Nat → Int32)) (young : (Nat → Int32)) (dropped : (Nat → Int32)) (released : (Nat → Int32)) (owed : (Nat → Int32)) (counted : (Nat → Int32)) (inMemory : (Nat → Int32)) (onDisk : (Nat → Int32)) (thn : (Nat → Int32)) (moved : Int32) (r : Int32) (cx : cx_ok p s m args meth c b_R_place 4 o_R_place "OrderedVolumeModel" (some .int) D cI cZ A) : ∀ (n : Nat) (x2 : Int32) (x3 : Int32), s_R_place_13 F mem dsk fresh n x2 x3 = some r → wk_G p l e rm_R_place s m args below meth c (sc_Qi below args s D cI cZ A (w_R cI cZ h_p0 h_p0_m h_p0_d h_p0_fresh h_p0_young h_p0_dropped h_p0_released h_p0_owed h_p0_counted h_p0_inMemory h_p0_onDisk h_p0_thn mem dsk fresh young dropped released owed counted inMemory onDisk thn moved) r) D A 4 13 [] [(0, .ref h_p0), (2, .int x2), (3, .int x3)] (w_R cI cZ h_p0 h_p0_m h_p0_d h_p0_fresh h_p0_young h_p0_dropped h_p0_released h_p0_owed h_p0_counted h_p0_inMemory h_p0_onDisk h_p0_thn mem dsk fresh young dropped released owed counted inMemory onDisk thn moved) := by
  obtain ⟨cf, hr, hlk, hK, hN, hA⟩ := cx
  have hx := cf.1
  have hb := cf.2.1
  have hown := cf.2.2.2.1
  have ht : ∀ w ∈ wA, w.before args s = true := fun w h => cf.2.2.2.2 w (List.mem_cons_of_mem _ h)
  intro n
  induction n with
  | zero => intro x2 x3 h; cases (show (none : Option (Int32)) = some _ from h)
  | succ n ih =>
    intro x2 x3 h H locs ls hl hP hD hS
    unfold s_R_place_13 at h
    refine lv_iload_n hx hb d_R_place_13 rfl (lv_at hl 2 rfl) ?_
    refine lv_bipush (v := (nI 8)) hx hb d_R_place_14 (by decide) ?_
    refine lv_icmp_ge hx hb d_R_place_16 rfl (fun hc => ?_) (fun hc => ?_)
    · rw [if_pos hc] at h
      refine lv_iconst (v := (-1)) hx hb d_R_place_50 (by decide) ?_
      cases h
      exact sc_iret cf hr hlk hK hP hD hS d_R_place_51
    · rw [if_neg hc] at h
      refine lv_aload_n hx hb d_R_place_19 rfl (lv_at hl 0 rfl) ?_
      refine va_get (D := D) (ci := 2) (v := .ref h_p0_m) (C := R_R) (T := F_R) (N := 12) hx hb ht in_R hown hK hP 0 rfl rfl 0 (by decide) (ht _ f_R_7) (fun _ h9 => h9) rfl d_R_place_20 ?_
      refine lv_bipush (v := (nI 30)) hx hb d_R_place_23 (by decide) ?_
      refine lv_iload_n hx hb d_R_place_25 rfl (lv_at hl 1 rfl) ?_
      refine lv_imul hx hb d_R_place_26 ?_
      refine lv_iload_n hx hb d_R_place_27 rfl (lv_at hl 2 rfl) ?_
      refine lv_iadd hx hb d_R_place_28 ?_
      obtain ⟨hin, h⟩ := gr_some h
      refine va_iald hx hb hK hP 1 0 rfl rfl hin d_R_place_29 ?_
      generalize mem (((nI 30) * x2) + x3).toNatClampNeg = v29 at h ⊢
      refine lv_if_ne hx hb d_R_place_30 rfl (fun hc => ?_) (fun hc => ?_)
      · rw [if_neg hc] at h
        refine lv_iinc (k := 2) (v := (x3 + (nI 1))) (lv' := [(3, .int (x3 + (nI 1))), (0, .ref h_p0), (2, .int x2)]) hx hb d_R_place_44 hl rfl rfl (by decide) rfl (fun ls hl => ?_)
        refine lv_goto hx hb d_R_place_47 rfl ?_
        exact ih x2 (x3 + (nI 1)) h H locs ls (lv_sub hl [1, 2, 0] rfl) hP hD hS
      · rw [if_pos hc] at h
        refine lv_aload_n hx hb d_R_place_33 rfl (lv_at hl 0 rfl) ?_
        refine lv_iload_n hx hb d_R_place_34 rfl (lv_at hl 1 rfl) ?_
        refine lv_iload_n hx hb d_R_place_35 rfl (lv_at hl 2 rfl) ?_
        obtain ⟨r36, h36, h⟩ := bd_some h
        refine wk_Vi (As := [.int x2, .int x3]) (rest := []) (wc := (w_R cI cZ h_p0 h_p0_m h_p0_d h_p0_fresh h_p0_young h_p0_dropped h_p0_released h_p0_owed h_p0_counted h_p0_inMemory h_p0_onDisk h_p0_thn mem dsk fresh young dropped released owed counted inMemory onDisk thn moved)) (w1 := (w_R cI cZ h_p0 h_p0_m h_p0_d h_p0_fresh h_p0_young h_p0_dropped h_p0_released h_p0_owed h_p0_counted h_p0_inMemory h_p0_onDisk h_p0_thn mem dsk fresh young dropped released owed counted inMemory onDisk thn moved)) (wr := []) (wz := (w_R cI cZ h_p0 h_p0_m h_p0_d h_p0_fresh h_p0_young h_p0_dropped h_p0_released h_p0_owed h_p0_counted h_p0_inMemory h_p0_onDisk h_p0_thn mem dsk fresh young dropped released owed counted inMemory onDisk thn moved)) cf hK hN hA (c_R_seen l D cI cZ h_p0 h_p0_m h_p0_d h_p0_fresh h_p0_young h_p0_dropped h_p0_released h_p0_owed h_p0_counted h_p0_inMemory h_p0_onDisk h_p0_thn mem dsk fresh young dropped released owed counted inMemory onDisk thn moved x2 x3 r36 h36) k_R_66 ⟨rfl, rfl, by decide, by decide⟩ 2 rfl rfl rfl hl hP hD hS [0, 1, 2, 3, 4, 5, 6, 7, 8, 9, 10, 11] [] [0, 1, 2, 3, 4, 5, 6, 7, 8, 9, 10, 11] rfl rfl rfl (by decide) rfl rfl rfl rfl rfl (Nat.le_of_ble_eq_true rfl) rfl d_R_place_36 (fun H locs hP hD hS => ?_)
        refine lv_if_ne hx hb d_R_place_39 rfl (fun hc => ?_) (fun hc => ?_)
        · rw [if_neg hc] at h
          refine lv_iinc (k := 2) (v := (x3 + (nI 1))) (lv' := [(3, .int (x3 + (nI 1))), (0, .ref h_p0), (2, .int x2)]) hx hb d_R_place_44 hl rfl rfl (by decide) rfl (fun ls hl => ?_)
          refine lv_goto hx hb d_R_place_47 rfl ?_
          exact ih x2 (x3 + (nI 1)) h H locs ls (lv_sub hl [1, 2, 0] rfl) hP hD hS
        · rw [if_pos hc] at h
          refine lv_iload_n hx hb d_R_place_42 rfl (lv_at hl 2 rfl) ?_
          cases h
          exact sc_iret cf hr hlk hK hP hD hS d_R_place_43
