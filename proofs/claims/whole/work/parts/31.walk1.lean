set_option maxHeartbeats 4000000 in
set_option maxRecDepth 100000 in
theorem w_S_namer_2 {p : Program} {l : Launch} {e : Env} {s : State} {m : MethodId} {args : Array Value} {below : List Frame} {meth : Method} {c : Code} {D : va_G} {cI cZ : ClassId} {A : Nat → Prop} (h_p0 h_p0_maps h_p0_tables h_p0_words h_p0_blank h_p0_queue : Nat) (F : Nat) (maps : (Nat → Int32)) (tables : (Nat → Int32)) (words : (Nat → Int32)) (blank : (Nat → Int32)) (queue : (Nat → Int32)) (r : Int32) (cx : cx_ok p s m args meth c b_S_namer 4 o_S_namer "OrderedVolume$Store" (some .int) D cI cZ A) : ∀ (n : Nat) (x1 : Int32) (x2 : Int32), s_S_namer_2 F tables n x1 x2 = some r → wk_G p l e rm_S_namer s m args below meth c (sc_Qi below args s D cI cZ A (w_S cI cZ h_p0 h_p0_maps h_p0_tables h_p0_words h_p0_blank h_p0_queue maps tables words blank queue) r) D A 4 2 [] [(0, .ref h_p0), (1, .int x1), (2, .int x2)] (w_S cI cZ h_p0 h_p0_maps h_p0_tables h_p0_words h_p0_blank h_p0_queue maps tables words blank queue) := by
  obtain ⟨cf, hr, hlk, hK, hN, hA⟩ := cx
  have hx := cf.1
  have hb := cf.2.1
  have hown := cf.2.2.2.1
  have ht : ∀ w ∈ wA, w.before args s = true := fun w h => cf.2.2.2.2 w (List.mem_cons_of_mem _ h)
  intro n
  induction n with
  | zero => intro x1 x2 h; cases (show (none : Option (Int32)) = some _ from h)
  | succ n ih =>
    intro x1 x2 h H locs ls hl hP hD hS
    unfold s_S_namer_2 at h
    refine lv_iload_n hx hb d_S_namer_2 rfl (lv_at hl 2 rfl) ?_
    refine lv_bipush (v := (nI 18)) hx hb d_S_namer_3 (by decide) ?_
    refine lv_icmp_ge hx hb d_S_namer_5 rfl (fun hc => ?_) (fun hc => ?_)
    · rw [if_pos hc] at h
      refine lv_iconst (v := (-1)) hx hb d_S_namer_39 (by decide) ?_
      cases h
      exact sc_iret cf hr hlk hK hP hD hS d_S_namer_40
    · rw [if_neg hc] at h
      refine lv_iconst (v := (nI 0)) hx hb d_S_namer_8 (by decide) ?_
      refine lv_istore_n (lv' := [(3, .int (nI 0)), (0, .ref h_p0), (1, .int x1), (2, .int x2)]) hx hb d_S_namer_9 rfl hl (by decide) rfl (fun ls hl => ?_)
      exact w_S_namer_10 h_p0 h_p0_maps h_p0_tables h_p0_words h_p0_blank h_p0_queue F maps tables words blank queue r _ ⟨cf, hr, hlk, hK, hN, hA⟩ ih F x1 x2 (nI 0) h H locs ls (lv_sub hl [1, 2, 3, 0] rfl) hP hD hS
set_option maxHeartbeats 4000000 in
set_option maxRecDepth 100000 in
theorem c_S_namer (l : Launch) (D : va_G) (cI cZ : ClassId) (h_p0 h_p0_maps h_p0_tables h_p0_words h_p0_blank h_p0_queue : Nat) (F : Nat) (maps : (Nat → Int32)) (tables : (Nat → Int32)) (words : (Nat → Int32)) (blank : (Nat → Int32)) (queue : (Nat → Int32)) (x1 : Int32) (r : Int32) (h : s_S_namer F tables x1 = some r) : sc_i l y_S_namer (o_S_namer :: wA) rm_S_namer D cI cZ [.ref h_p0, .int x1] (w_S cI cZ h_p0 h_p0_maps h_p0_tables h_p0_words h_p0_blank h_p0_queue maps tables words blank queue) (w_S cI cZ h_p0 h_p0_maps h_p0_tables h_p0_words h_p0_blank h_p0_queue maps tables words blank queue) r := by
  refine sc_i_of (cc := b_S_namer) (maxL := 4) (ret := (some .int)) (by decide) rfl (Nat.le_of_ble_eq_true rfl) ?_
  intro p e s m below meth c A cf hr hlk hK hN hA H locs ls hl hP hD hS
  have hx := cf.1
  have hb := cf.2.1
  have hown := cf.2.2.2.1
  have ht : ∀ w ∈ wA, w.before _ s = true := fun w h => cf.2.2.2.2 w (List.mem_cons_of_mem _ h)
  unfold s_S_namer at h
  have hl : lv_has ls 4 [(0, .ref h_p0), (1, .int x1)] := hl
  refine lv_iconst (v := (nI 0)) hx hb d_S_namer_0 (by decide) ?_
  refine lv_istore_n (lv' := [(2, .int (nI 0)), (0, .ref h_p0), (1, .int x1)]) hx hb d_S_namer_1 rfl hl (by decide) rfl (fun ls hl => ?_)
  exact w_S_namer_2 h_p0 h_p0_maps h_p0_tables h_p0_words h_p0_blank h_p0_queue F maps tables words blank queue r ⟨cf, hr, hlk, hK, hN, hA⟩ F x1 (nI 0) h H locs ls (lv_sub hl [1, 2, 0] rfl) hP hD hS
set_option maxHeartbeats 4000000 in
set_option maxRecDepth 100000 in
theorem w_S_reach_32 {p : Program} {l : Launch} {e : Env} {s : State} {m : MethodId} {args : Array Value} {below : List Frame} {meth : Method} {c : Code} {D : va_G} {cI cZ : ClassId} {A : Nat → Prop} (h_p0 h_p0_maps h_p0_tables h_p0_words h_p0_blank h_p0_queue : Nat) (F : Nat) (maps : (Nat → Int32)) (tables : (Nat → Int32)) (words : (Nat → Int32)) (blank : (Nat → Int32)) (queue' : (Nat → Int32)) (r : Int32) (k16 : Int32 → Int32 → Int32 → (Nat → Int32) → Option (Int32 × (Nat → Int32))) (cx : cx_ok p s m args meth c b_S_reach 8 o_S_reach "OrderedVolume$Store" (some .int) D cI cZ A) (h16 : (∀ (x2 : Int32) (x3 : Int32) (x4 : Int32) (queue : (Nat → Int32)), k16 x2 x3 x4 queue = some (r, queue') → wk_G p l e rm_S_reach s m args below meth c (sc_Qi below args s D cI cZ A (w_S cI cZ h_p0 h_p0_maps h_p0_tables h_p0_words h_p0_blank h_p0_queue maps tables words blank (queue')) r) D A 8 16 [] [(0, .ref h_p0), (2, .int x2), (3, .int x3), (4, .int x4)] (w_S cI cZ h_p0 h_p0_maps h_p0_tables h_p0_words h_p0_blank h_p0_queue maps tables words blank queue))) : ∀ (n : Nat) (x2 : Int32) (x3 : Int32) (x4 : Int32) (x5 : Int32) (queue : (Nat → Int32)), s_S_reach_32 F tables words blank k16 n x2 x3 x4 x5 queue = some (r, queue') → wk_G p l e rm_S_reach s m args below meth c (sc_Qi below args s D cI cZ A (w_S cI cZ h_p0 h_p0_maps h_p0_tables h_p0_words h_p0_blank h_p0_queue maps tables words blank (queue')) r) D A 8 32 [] [(0, .ref h_p0), (2, .int x2), (3, .int x3), (4, .int x4), (5, .int x5)] (w_S cI cZ h_p0 h_p0_maps h_p0_tables h_p0_words h_p0_blank h_p0_queue maps tables words blank queue) := by
  obtain ⟨cf, hr, hlk, hK, hN, hA⟩ := cx
  have hx := cf.1
  have hb := cf.2.1
  have hown := cf.2.2.2.1
  have ht : ∀ w ∈ wA, w.before args s = true := fun w h => cf.2.2.2.2 w (List.mem_cons_of_mem _ h)
  intro n
  induction n with
  | zero => intro x2 x3 x4 x5 queue h; cases (show (none : Option (Int32 × (Nat → Int32))) = some _ from h)
  | succ n ih =>
    intro x2 x3 x4 x5 queue h H locs ls hl hP hD hS
    unfold s_S_reach_32 at h
    refine lv_iload hx hb d_S_reach_32 (lv_at hl 4 rfl) ?_
    refine lv_bipush (v := (nI 8)) hx hb d_S_reach_34 (by decide) ?_
    refine lv_icmp_ge hx hb d_S_reach_36 rfl (fun hc => ?_) (fun hc => ?_)
    · rw [if_pos hc] at h
      refine lv_iinc (k := 3) (v := (x4 + (nI 1))) (lv' := [(4, .int (x4 + (nI 1))), (0, .ref h_p0), (2, .int x2), (3, .int x3), (5, .int x5)]) hx hb d_S_reach_106 hl rfl rfl (by decide) rfl (fun ls hl => ?_)
      refine lv_goto hx hb d_S_reach_109 rfl ?_
      exact h16 x2 x3 (x4 + (nI 1)) queue h H locs ls (lv_sub hl [1, 2, 3, 0] rfl) hP hD hS
    · rw [if_neg hc] at h
      refine lv_aload_n hx hb d_S_reach_39 rfl (lv_at hl 0 rfl) ?_
      refine lv_aload_n hx hb d_S_reach_40 rfl (lv_at hl 0 rfl) ?_
      refine va_get (D := D) (ci := 0) (v := .ref h_p0_queue) (C := R_S) (T := F_S) (N := 5) hx hb ht in_S hown hK hP 0 rfl rfl 4 (by decide) (ht _ f_S_25) (fun _ h9 => h9) rfl d_S_reach_41 ?_
      refine lv_iload hx hb d_S_reach_44 (lv_at hl 3 rfl) ?_
      obtain ⟨hin, h⟩ := gr_some h
      refine va_iald hx hb hK hP 5 0 rfl rfl hin d_S_reach_46 ?_
      generalize queue x4.toNatClampNeg = v46 at h ⊢
      refine lv_iload hx hb d_S_reach_47 (lv_at hl 4 rfl) ?_
      obtain ⟨r49, h49, h⟩ := bd_some h
      refine wk_Vi (As := [.int v46, .int x5]) (rest := []) (wc := (w_S cI cZ h_p0 h_p0_maps h_p0_tables h_p0_words h_p0_blank h_p0_queue maps tables words blank queue)) (w1 := (w_S cI cZ h_p0 h_p0_maps h_p0_tables h_p0_words h_p0_blank h_p0_queue maps tables words blank queue)) (wr := []) (wz := (w_S cI cZ h_p0 h_p0_maps h_p0_tables h_p0_words h_p0_blank h_p0_queue maps tables words blank queue)) cf hK hN hA (c_S_entry l D cI cZ h_p0 h_p0_maps h_p0_tables h_p0_words h_p0_blank h_p0_queue maps tables words blank queue v46 x5 r49 h49) k_S_56 ⟨rfl, rfl, by decide, by decide⟩ 0 rfl rfl rfl hl hP hD hS [0, 1, 2, 3, 4, 5] [] [0, 1, 2, 3, 4, 5] rfl rfl rfl (by decide) rfl rfl rfl rfl rfl (Nat.le_of_ble_eq_true rfl) rfl d_S_reach_49 (fun H locs hP hD hS => ?_)
      refine lv_istore (lv' := [(6, .int r49), (0, .ref h_p0), (2, .int x2), (3, .int x3), (4, .int x4), (5, .int x5)]) hx hb d_S_reach_52 hl (by decide) rfl (fun ls hl => ?_)
      refine lv_iload hx hb d_S_reach_54 (lv_at hl 0 rfl) ?_
      refine lv_bipush (v := (nI 32)) hx hb d_S_reach_56 (by decide) ?_
      refine lv_irem hx hb d_S_reach_58 (by decide) ?_
      refine lv_istore (lv' := [(7, .int (r49 - r49 / (nI 32) * (nI 32))), (6, .int r49), (0, .ref h_p0), (2, .int x2), (3, .int x3), (4, .int x4), (5, .int x5)]) hx hb d_S_reach_59 hl (by decide) rfl (fun ls hl => ?_)
      refine lv_iload hx hb d_S_reach_61 (lv_at hl 1 rfl) ?_
      refine lv_if_eq hx hb d_S_reach_63 rfl (fun hc => ?_) (fun hc => ?_)
      · rw [if_pos hc] at h
        refine lv_iinc (k := 6) (v := (x5 + (nI 1))) (lv' := [(5, .int (x5 + (nI 1))), (7, .int (r49 - r49 / (nI 32) * (nI 32))), (6, .int r49), (0, .ref h_p0), (2, .int x2), (3, .int x3), (4, .int x4)]) hx hb d_S_reach_100 hl rfl rfl (by decide) rfl (fun ls hl => ?_)
        refine lv_goto hx hb d_S_reach_103 rfl ?_
        exact ih x2 x3 x4 (x5 + (nI 1)) queue h H locs ls (lv_sub hl [3, 4, 5, 6, 0] rfl) hP hD hS
      · rw [if_neg hc] at h
        refine lv_iload hx hb d_S_reach_66 (lv_at hl 0 rfl) ?_
        refine lv_bipush (v := (nI 18)) hx hb d_S_reach_68 (by decide) ?_
        refine lv_icmp_ge hx hb d_S_reach_70 rfl (fun hc => ?_) (fun hc => ?_)
        · rw [if_pos hc] at h
          refine lv_iinc (k := 6) (v := (x5 + (nI 1))) (lv' := [(5, .int (x5 + (nI 1))), (7, .int (r49 - r49 / (nI 32) * (nI 32))), (6, .int r49), (0, .ref h_p0), (2, .int x2), (3, .int x3), (4, .int x4)]) hx hb d_S_reach_100 hl rfl rfl (by decide) rfl (fun ls hl => ?_)
          refine lv_goto hx hb d_S_reach_103 rfl ?_
          exact ih x2 x3 x4 (x5 + (nI 1)) queue h H locs ls (lv_sub hl [3, 4, 5, 6, 0] rfl) hP hD hS
        · rw [if_neg hc] at h
          refine lv_iload_n hx hb d_S_reach_73 rfl (lv_at hl 3 rfl) ?_
          refine lv_iload hx hb d_S_reach_74 (lv_at hl 0 rfl) ?_
          obtain ⟨r76, h76, h⟩ := bd_some h
          refine wk_Ni (As := [.int x2, .int (r49 - r49 / (nI 32) * (nI 32))]) (rest := []) (wc := []) (w1 := []) (wr := [(h_p0, .inr (0, [.ref h_p0_maps, .ref h_p0_tables, .ref h_p0_words, .ref h_p0_blank, .ref h_p0_queue])), (h_p0_maps, .inl (cI, 48, .inl maps)), (h_p0_tables, .inl (cI, 90, .inl tables)), (h_p0_words, .inl (cI, 288, .inl words)), (h_p0_blank, .inl (cZ, 36, .inl blank)), (h_p0_queue, .inl (cI, 18, .inl queue))]) (wz := (w_S cI cZ h_p0 h_p0_maps h_p0_tables h_p0_words h_p0_blank h_p0_queue maps tables words blank queue)) cf hK hN hA (c_V_has l D cI cZ 0 x2 (r49 - r49 / (nI 32) * (nI 32)) r76 h76) k_S_66 hN.2.2.1 ⟨rfl, rfl, by decide, by decide⟩ hl hP hD hS [] [0, 1, 2, 3, 4, 5] [0, 1, 2, 3, 4, 5] rfl rfl rfl (by decide) rfl rfl rfl rfl rfl (Nat.le_of_ble_eq_true rfl) rfl d_S_reach_76 (fun H locs hP hD hS => ?_)
          refine lv_if_ne hx hb d_S_reach_79 rfl (fun hc => ?_) (fun hc => ?_)
          · rw [if_neg hc] at h
            refine lv_iinc (k := 6) (v := (x5 + (nI 1))) (lv' := [(5, .int (x5 + (nI 1))), (7, .int (r49 - r49 / (nI 32) * (nI 32))), (6, .int r49), (0, .ref h_p0), (2, .int x2), (3, .int x3), (4, .int x4)]) hx hb d_S_reach_100 hl rfl rfl (by decide) rfl (fun ls hl => ?_)
            refine lv_goto hx hb d_S_reach_103 rfl ?_
            exact ih x2 x3 x4 (x5 + (nI 1)) queue h H locs ls (lv_sub hl [3, 4, 5, 6, 0] rfl) hP hD hS
          · rw [if_pos hc] at h
            refine lv_iload_n hx hb d_S_reach_82 rfl (lv_at hl 3 rfl) ?_
            refine lv_iconst (v := (nI 1)) hx hb d_S_reach_83 (by decide) ?_
            refine lv_iload hx hb d_S_reach_84 (lv_at hl 0 rfl) ?_
            refine lv_ishl hx hb d_S_reach_86 ?_
            refine lv_ior hx hb d_S_reach_87 ?_
            refine lv_istore_n (lv' := [(2, .int (x2 ||| ((nI 1) <<< ((r49 - r49 / (nI 32) * (nI 32)) &&& 31)))), (7, .int (r49 - r49 / (nI 32) * (nI 32))), (6, .int r49), (0, .ref h_p0), (3, .int x3), (4, .int x4), (5, .int x5)]) hx hb d_S_reach_88 rfl hl (by decide) rfl (fun ls hl => ?_)
            refine lv_aload_n hx hb d_S_reach_89 rfl (lv_at hl 3 rfl) ?_
            refine va_get (D := D) (ci := 0) (v := .ref h_p0_queue) (C := R_S) (T := F_S) (N := 5) hx hb ht in_S hown hK hP 0 rfl rfl 4 (by decide) (ht _ f_S_25) (fun _ h9 => h9) rfl d_S_reach_90 ?_
            refine lv_iload_n hx hb d_S_reach_93 rfl (lv_at hl 4 rfl) ?_
            refine lv_iload hx hb d_S_reach_94 (lv_at hl 1 rfl) ?_
            obtain ⟨hin, h⟩ := ga_some h
            refine va_iast hx hb hK hP hD hS 5 0 rfl rfl hin d_S_reach_96 (fun H locs hP hD hS => ?_)
            have hP : va_P D clA (w_S cI cZ h_p0 h_p0_maps h_p0_tables h_p0_words h_p0_blank h_p0_queue maps tables words blank (upd queue x3.toNatClampNeg (r49 - r49 / (nI 32) * (nI 32)))) H := hP
            have hD : va_D A (w_S cI cZ h_p0 h_p0_maps h_p0_tables h_p0_words h_p0_blank h_p0_queue maps tables words blank (upd queue x3.toNatClampNeg (r49 - r49 / (nI 32) * (nI 32)))) := hD
            refine lv_iinc (k := 4) (v := (x3 + (nI 1))) (lv' := [(3, .int (x3 + (nI 1))), (2, .int (x2 ||| ((nI 1) <<< ((r49 - r49 / (nI 32) * (nI 32)) &&& 31)))), (7, .int (r49 - r49 / (nI 32) * (nI 32))), (6, .int r49), (0, .ref h_p0), (4, .int x4), (5, .int x5)]) hx hb d_S_reach_97 hl rfl rfl (by decide) rfl (fun ls hl => ?_)
            refine lv_iinc (k := 6) (v := (x5 + (nI 1))) (lv' := [(5, .int (x5 + (nI 1))), (3, .int (x3 + (nI 1))), (2, .int (x2 ||| ((nI 1) <<< ((r49 - r49 / (nI 32) * (nI 32)) &&& 31)))), (7, .int (r49 - r49 / (nI 32) * (nI 32))), (6, .int r49), (0, .ref h_p0), (4, .int x4)]) hx hb d_S_reach_100 hl rfl rfl (by decide) rfl (fun ls hl => ?_)
            refine lv_goto hx hb d_S_reach_103 rfl ?_
            exact ih (x2 ||| ((nI 1) <<< ((r49 - r49 / (nI 32) * (nI 32)) &&& 31))) (x3 + (nI 1)) x4 (x5 + (nI 1)) (upd queue x3.toNatClampNeg (r49 - r49 / (nI 32) * (nI 32))) h H locs ls (lv_sub hl [5, 2, 1, 6, 0] rfl) hP hD hS
set_option maxHeartbeats 4000000 in
set_option maxRecDepth 100000 in
theorem w_S_reach_16 {p : Program} {l : Launch} {e : Env} {s : State} {m : MethodId} {args : Array Value} {below : List Frame} {meth : Method} {c : Code} {D : va_G} {cI cZ : ClassId} {A : Nat → Prop} (h_p0 h_p0_maps h_p0_tables h_p0_words h_p0_blank h_p0_queue : Nat) (F : Nat) (maps : (Nat → Int32)) (tables : (Nat → Int32)) (words : (Nat → Int32)) (blank : (Nat → Int32)) (queue' : (Nat → Int32)) (r : Int32) (cx : cx_ok p s m args meth c b_S_reach 8 o_S_reach "OrderedVolume$Store" (some .int) D cI cZ A) : ∀ (n : Nat) (x2 : Int32) (x3 : Int32) (x4 : Int32) (queue : (Nat → Int32)), s_S_reach_16 F tables words blank n x2 x3 x4 queue = some (r, queue') → wk_G p l e rm_S_reach s m args below meth c (sc_Qi below args s D cI cZ A (w_S cI cZ h_p0 h_p0_maps h_p0_tables h_p0_words h_p0_blank h_p0_queue maps tables words blank (queue')) r) D A 8 16 [] [(0, .ref h_p0), (2, .int x2), (3, .int x3), (4, .int x4)] (w_S cI cZ h_p0 h_p0_maps h_p0_tables h_p0_words h_p0_blank h_p0_queue maps tables words blank queue) := by
  obtain ⟨cf, hr, hlk, hK, hN, hA⟩ := cx
  have hx := cf.1
  have hb := cf.2.1
  have hown := cf.2.2.2.1
  have ht : ∀ w ∈ wA, w.before args s = true := fun w h => cf.2.2.2.2 w (List.mem_cons_of_mem _ h)
  intro n
  induction n with
  | zero => intro x2 x3 x4 queue h; cases (show (none : Option (Int32 × (Nat → Int32))) = some _ from h)
  | succ n ih =>
    intro x2 x3 x4 queue h H locs ls hl hP hD hS
    unfold s_S_reach_16 at h
    refine lv_iload hx hb d_S_reach_16 (lv_at hl 3 rfl) ?_
    refine lv_iload_n hx hb d_S_reach_18 rfl (lv_at hl 2 rfl) ?_
    refine lv_icmp_ge hx hb d_S_reach_19 rfl (fun hc => ?_) (fun hc => ?_)
    · rw [if_pos hc] at h
      refine lv_iload_n hx hb d_S_reach_112 rfl (lv_at hl 1 rfl) ?_
      cases h
      exact sc_iret cf hr hlk hK hP hD hS d_S_reach_113
    · rw [if_neg hc] at h
      refine lv_iload hx hb d_S_reach_22 (lv_at hl 3 rfl) ?_
      refine lv_bipush (v := (nI 18)) hx hb d_S_reach_24 (by decide) ?_
      refine lv_icmp_ge hx hb d_S_reach_26 rfl (fun hc => ?_) (fun hc => ?_)
      · rw [if_pos hc] at h
        refine lv_iload_n hx hb d_S_reach_112 rfl (lv_at hl 1 rfl) ?_
        cases h
        exact sc_iret cf hr hlk hK hP hD hS d_S_reach_113
      · rw [if_neg hc] at h
        refine lv_iconst (v := (nI 0)) hx hb d_S_reach_29 (by decide) ?_
        refine lv_istore (lv' := [(5, .int (nI 0)), (0, .ref h_p0), (2, .int x2), (3, .int x3), (4, .int x4)]) hx hb d_S_reach_30 hl (by decide) rfl (fun ls hl => ?_)
        exact w_S_reach_32 h_p0 h_p0_maps h_p0_tables h_p0_words h_p0_blank h_p0_queue F maps tables words blank queue' r _ ⟨cf, hr, hlk, hK, hN, hA⟩ ih F x2 x3 x4 (nI 0) queue h H locs ls (lv_sub hl [1, 2, 3, 4, 0] rfl) hP hD hS
set_option maxHeartbeats 4000000 in
set_option maxRecDepth 100000 in
theorem c_S_reach (l : Launch) (D : va_G) (cI cZ : ClassId) (h_p0 h_p0_maps h_p0_tables h_p0_words h_p0_blank h_p0_queue : Nat) (F : Nat) (maps : (Nat → Int32)) (tables : (Nat → Int32)) (words : (Nat → Int32)) (blank : (Nat → Int32)) (queue : (Nat → Int32)) (queue' : (Nat → Int32)) (x1 : Int32) (r : Int32) (h : s_S_reach F tables words blank x1 queue = some (r, queue')) : sc_i l y_S_reach (o_S_reach :: wA) rm_S_reach D cI cZ [.ref h_p0, .int x1] (w_S cI cZ h_p0 h_p0_maps h_p0_tables h_p0_words h_p0_blank h_p0_queue maps tables words blank queue) (w_S cI cZ h_p0 h_p0_maps h_p0_tables h_p0_words h_p0_blank h_p0_queue maps tables words blank (queue')) r := by
  refine sc_i_of (cc := b_S_reach) (maxL := 8) (ret := (some .int)) (by decide) rfl (Nat.le_of_ble_eq_true rfl) ?_
  intro p e s m below meth c A cf hr hlk hK hN hA H locs ls hl hP hD hS
  have hx := cf.1
  have hb := cf.2.1
  have hown := cf.2.2.2.1
  have ht : ∀ w ∈ wA, w.before _ s = true := fun w h => cf.2.2.2.2 w (List.mem_cons_of_mem _ h)
  unfold s_S_reach at h
  have hl : lv_has ls 8 [(0, .ref h_p0), (1, .int x1)] := hl
  refine lv_iconst (v := (nI 1)) hx hb d_S_reach_0 (by decide) ?_
  refine lv_iload_n hx hb d_S_reach_1 rfl (lv_at hl 1 rfl) ?_
  refine lv_ishl hx hb d_S_reach_2 ?_
  refine lv_istore_n (lv' := [(2, .int ((nI 1) <<< (x1 &&& 31))), (0, .ref h_p0), (1, .int x1)]) hx hb d_S_reach_3 rfl hl (by decide) rfl (fun ls hl => ?_)
  refine lv_iconst (v := (nI 1)) hx hb d_S_reach_4 (by decide) ?_
  refine lv_istore_n (lv' := [(3, .int (nI 1)), (2, .int ((nI 1) <<< (x1 &&& 31))), (0, .ref h_p0), (1, .int x1)]) hx hb d_S_reach_5 rfl hl (by decide) rfl (fun ls hl => ?_)
  refine lv_aload_n hx hb d_S_reach_6 rfl (lv_at hl 2 rfl) ?_
  refine va_get (D := D) (ci := 0) (v := .ref h_p0_queue) (C := R_S) (T := F_S) (N := 5) hx hb ht in_S hown hK hP 0 rfl rfl 4 (by decide) (ht _ f_S_25) (fun _ h9 => h9) rfl d_S_reach_7 ?_
  refine lv_iconst (v := (nI 0)) hx hb d_S_reach_10 (by decide) ?_
  refine lv_iload_n hx hb d_S_reach_11 rfl (lv_at hl 3 rfl) ?_
  obtain ⟨hin, h⟩ := ga_some h
  refine va_iast hx hb hK hP hD hS 5 0 rfl rfl hin d_S_reach_12 (fun H locs hP hD hS => ?_)
  have hP : va_P D clA (w_S cI cZ h_p0 h_p0_maps h_p0_tables h_p0_words h_p0_blank h_p0_queue maps tables words blank (upd queue (nI 0).toNatClampNeg x1)) H := hP
  have hD : va_D A (w_S cI cZ h_p0 h_p0_maps h_p0_tables h_p0_words h_p0_blank h_p0_queue maps tables words blank (upd queue (nI 0).toNatClampNeg x1)) := hD
  refine lv_iconst (v := (nI 0)) hx hb d_S_reach_13 (by decide) ?_
  refine lv_istore (lv' := [(4, .int (nI 0)), (3, .int (nI 1)), (2, .int ((nI 1) <<< (x1 &&& 31))), (0, .ref h_p0), (1, .int x1)]) hx hb d_S_reach_14 hl (by decide) rfl (fun ls hl => ?_)
  exact w_S_reach_16 h_p0 h_p0_maps h_p0_tables h_p0_words h_p0_blank h_p0_queue F maps tables words blank queue' r ⟨cf, hr, hlk, hK, hN, hA⟩ F ((nI 1) <<< (x1 &&& 31)) (nI 1) (nI 0) (upd queue (nI 0).toNatClampNeg x1) h H locs ls (lv_sub hl [3, 2, 1, 0] rfl) hP hD hS
set_option maxHeartbeats 4000000 in
set_option maxRecDepth 100000 in
theorem w_S_roomiestGroup_45 {p : Program} {l : Launch} {e : Env} {s : State} {m : MethodId} {args : Array Value} {below : List Frame} {meth : Method} {c : Code} {D : va_G} {cI cZ : ClassId} {A : Nat → Prop} (h_p0 h_p0_maps h_p0_tables h_p0_words h_p0_blank h_p0_queue : Nat) (F : Nat) (maps : (Nat → Int32)) (tables : (Nat → Int32)) (words : (Nat → Int32)) (blank : (Nat → Int32)) (queue : (Nat → Int32)) (r : Int32) (k6 : Int32 → Int32 → Int32 → Option (Int32)) (k17 : Int32 → Int32 → Int32 → Int32 → Int32 → Option (Int32)) (cx : cx_ok p s m args meth c b_S_roomiestGroup 6 o_S_roomiestGroup "OrderedVolume$Store" (some .int) D cI cZ A) (h6 : (∀ (x1 : Int32) (x2 : Int32) (x3 : Int32), k6 x1 x2 x3 = some r → wk_G p l e rm_S_roomiestGroup s m args below meth c (sc_Qi below args s D cI cZ A (w_S cI cZ h_p0 h_p0_maps h_p0_tables h_p0_words h_p0_blank h_p0_queue maps tables words blank queue) r) D A 6 6 [] [(0, .ref h_p0), (1, .int x1), (2, .int x2), (3, .int x3)] (w_S cI cZ h_p0 h_p0_maps h_p0_tables h_p0_words h_p0_blank h_p0_queue maps tables words blank queue))) (h17 : (∀ (x1 : Int32) (x2 : Int32) (x3 : Int32) (x4 : Int32) (x5 : Int32), k17 x1 x2 x3 x4 x5 = some r → wk_G p l e rm_S_roomiestGroup s m args below meth c (sc_Qi below args s D cI cZ A (w_S cI cZ h_p0 h_p0_maps h_p0_tables h_p0_words h_p0_blank h_p0_queue maps tables words blank queue) r) D A 6 17 [] [(0, .ref h_p0), (1, .int x1), (2, .int x2), (3, .int x3), (4, .int x4), (5, .int x5)] (w_S cI cZ h_p0 h_p0_maps h_p0_tables h_p0_words h_p0_blank h_p0_queue maps tables words blank queue))) : ∀ (x1 : Int32) (x2 : Int32) (x3 : Int32) (x5 : Int32) (t0 : Int32) (t1 : Int32), s_S_roomiestGroup_45 F maps tables k6 k17 x1 x2 x3 x5 t0 t1 = some r → wk_G p l e rm_S_roomiestGroup s m args below meth c (sc_Qi below args s D cI cZ A (w_S cI cZ h_p0 h_p0_maps h_p0_tables h_p0_words h_p0_blank h_p0_queue maps tables words blank queue) r) D A 6 45 [.int t1, .int t0] [(0, .ref h_p0), (1, .int x1), (2, .int x2), (3, .int x3), (5, .int x5)] (w_S cI cZ h_p0 h_p0_maps h_p0_tables h_p0_words h_p0_blank h_p0_queue maps tables words blank queue) := by
  obtain ⟨cf, hr, hlk, hK, hN, hA⟩ := cx
  have hx := cf.1
  have hb := cf.2.1
  have hown := cf.2.2.2.1
  have ht : ∀ w ∈ wA, w.before args s = true := fun w h => cf.2.2.2.2 w (List.mem_cons_of_mem _ h)
  intro x1 x2 x3 x5 t0 t1 h H locs ls hl hP hD hS
  unfold s_S_roomiestGroup_45 at h
  refine lv_iadd hx hb d_S_roomiestGroup_45 ?_
  refine lv_istore (lv' := [(4, .int (t0 + t1)), (0, .ref h_p0), (1, .int x1), (2, .int x2), (3, .int x3), (5, .int x5)]) hx hb d_S_roomiestGroup_46 hl (by decide) rfl (fun ls hl => ?_)
  refine lv_iinc (k := 5) (v := (x5 + (nI 1))) (lv' := [(5, .int (x5 + (nI 1))), (4, .int (t0 + t1)), (0, .ref h_p0), (1, .int x1), (2, .int x2), (3, .int x3)]) hx hb d_S_roomiestGroup_48 hl rfl rfl (by decide) rfl (fun ls hl => ?_)
  refine lv_goto hx hb d_S_roomiestGroup_51 rfl ?_
  exact h17 x1 x2 x3 (t0 + t1) (x5 + (nI 1)) h H locs ls (lv_sub hl [2, 3, 4, 5, 1, 0] rfl) hP hD hS
set_option maxHeartbeats 4000000 in
set_option maxRecDepth 100000 in
theorem w_S_roomiestGroup_17 {p : Program} {l : Launch} {e : Env} {s : State} {m : MethodId} {args : Array Value} {below : List Frame} {meth : Method} {c : Code} {D : va_G} {cI cZ : ClassId} {A : Nat → Prop} (h_p0 h_p0_maps h_p0_tables h_p0_words h_p0_blank h_p0_queue : Nat) (F : Nat) (maps : (Nat → Int32)) (tables : (Nat → Int32)) (words : (Nat → Int32)) (blank : (Nat → Int32)) (queue : (Nat → Int32)) (r : Int32) (k6 : Int32 → Int32 → Int32 → Option (Int32)) (cx : cx_ok p s m args meth c b_S_roomiestGroup 6 o_S_roomiestGroup "OrderedVolume$Store" (some .int) D cI cZ A) (h6 : (∀ (x1 : Int32) (x2 : Int32) (x3 : Int32), k6 x1 x2 x3 = some r → wk_G p l e rm_S_roomiestGroup s m args below meth c (sc_Qi below args s D cI cZ A (w_S cI cZ h_p0 h_p0_maps h_p0_tables h_p0_words h_p0_blank h_p0_queue maps tables words blank queue) r) D A 6 6 [] [(0, .ref h_p0), (1, .int x1), (2, .int x2), (3, .int x3)] (w_S cI cZ h_p0 h_p0_maps h_p0_tables h_p0_words h_p0_blank h_p0_queue maps tables words blank queue))) : ∀ (n : Nat) (x1 : Int32) (x2 : Int32) (x3 : Int32) (x4 : Int32) (x5 : Int32), s_S_roomiestGroup_17 F maps tables k6 n x1 x2 x3 x4 x5 = some r → wk_G p l e rm_S_roomiestGroup s m args below meth c (sc_Qi below args s D cI cZ A (w_S cI cZ h_p0 h_p0_maps h_p0_tables h_p0_words h_p0_blank h_p0_queue maps tables words blank queue) r) D A 6 17 [] [(0, .ref h_p0), (1, .int x1), (2, .int x2), (3, .int x3), (4, .int x4), (5, .int x5)] (w_S cI cZ h_p0 h_p0_maps h_p0_tables h_p0_words h_p0_blank h_p0_queue maps tables words blank queue) := by
  obtain ⟨cf, hr, hlk, hK, hN, hA⟩ := cx
  have hx := cf.1
  have hb := cf.2.1
  have hown := cf.2.2.2.1
  have ht : ∀ w ∈ wA, w.before args s = true := fun w h => cf.2.2.2.2 w (List.mem_cons_of_mem _ h)
  intro n
  induction n with
  | zero => intro x1 x2 x3 x4 x5 h; cases (show (none : Option (Int32)) = some _ from h)
  | succ n ih =>
    intro x1 x2 x3 x4 x5 h H locs ls hl hP hD hS
    unfold s_S_roomiestGroup_17 at h
    refine lv_iload hx hb d_S_roomiestGroup_17 (lv_at hl 5 rfl) ?_
    refine lv_bipush (v := (nI 6)) hx hb d_S_roomiestGroup_19 (by decide) ?_
    refine lv_icmp_ge hx hb d_S_roomiestGroup_21 rfl (fun hc => ?_) (fun hc => ?_)
    · rw [if_pos hc] at h
      refine lv_iload hx hb d_S_roomiestGroup_54 (lv_at hl 4 rfl) ?_
      refine lv_iload_n hx hb d_S_roomiestGroup_56 rfl (lv_at hl 2 rfl) ?_
      refine lv_icmp_le hx hb d_S_roomiestGroup_57 rfl (fun hc => ?_) (fun hc => ?_)
      · rw [if_pos hc] at h
        refine lv_iinc (k := 3) (v := (x3 + (nI 1))) (lv' := [(3, .int (x3 + (nI 1))), (0, .ref h_p0), (1, .int x1), (2, .int x2), (4, .int x4), (5, .int x5)]) hx hb d_S_roomiestGroup_65 hl rfl rfl (by decide) rfl (fun ls hl => ?_)
        refine lv_goto hx hb d_S_roomiestGroup_68 rfl ?_
        exact h6 x1 x2 (x3 + (nI 1)) h H locs ls (lv_sub hl [1, 2, 3, 0] rfl) hP hD hS
      · rw [if_neg hc] at h
        refine lv_iload_n hx hb d_S_roomiestGroup_60 rfl (lv_at hl 3 rfl) ?_
        refine lv_istore_n (lv' := [(1, .int x3), (0, .ref h_p0), (2, .int x2), (3, .int x3), (4, .int x4), (5, .int x5)]) hx hb d_S_roomiestGroup_61 rfl hl (by decide) rfl (fun ls hl => ?_)
        refine lv_iload hx hb d_S_roomiestGroup_62 (lv_at hl 4 rfl) ?_
        refine lv_istore_n (lv' := [(2, .int x4), (1, .int x3), (0, .ref h_p0), (3, .int x3), (4, .int x4), (5, .int x5)]) hx hb d_S_roomiestGroup_64 rfl hl (by decide) rfl (fun ls hl => ?_)
        refine lv_iinc (k := 3) (v := (x3 + (nI 1))) (lv' := [(3, .int (x3 + (nI 1))), (2, .int x4), (1, .int x3), (0, .ref h_p0), (4, .int x4), (5, .int x5)]) hx hb d_S_roomiestGroup_65 hl rfl rfl (by decide) rfl (fun ls hl => ?_)
        refine lv_goto hx hb d_S_roomiestGroup_68 rfl ?_
        exact h6 x3 x4 (x3 + (nI 1)) h H locs ls (lv_sub hl [3, 2, 1, 0] rfl) hP hD hS
    · rw [if_neg hc] at h
      refine lv_iload hx hb d_S_roomiestGroup_24 (lv_at hl 4 rfl) ?_
      refine lv_aload_n hx hb d_S_roomiestGroup_26 rfl (lv_at hl 0 rfl) ?_
      refine lv_iload_n hx hb d_S_roomiestGroup_27 rfl (lv_at hl 3 rfl) ?_
      refine lv_bipush (v := (nI 6)) hx hb d_S_roomiestGroup_28 (by decide) ?_
      refine lv_imul hx hb d_S_roomiestGroup_30 ?_
      refine lv_iload hx hb d_S_roomiestGroup_31 (lv_at hl 5 rfl) ?_
      refine lv_iadd hx hb d_S_roomiestGroup_33 ?_
      obtain ⟨r34, h34, h⟩ := bd_some h
      refine wk_Vi (As := [.int ((x3 * (nI 6)) + x5)]) (rest := [.int x4]) (wc := (w_S cI cZ h_p0 h_p0_maps h_p0_tables h_p0_words h_p0_blank h_p0_queue maps tables words blank queue)) (w1 := (w_S cI cZ h_p0 h_p0_maps h_p0_tables h_p0_words h_p0_blank h_p0_queue maps tables words blank queue)) (wr := []) (wz := (w_S cI cZ h_p0 h_p0_maps h_p0_tables h_p0_words h_p0_blank h_p0_queue maps tables words blank queue)) cf hK hN hA (c_S_isFreeInode l D cI cZ h_p0 h_p0_maps h_p0_tables h_p0_words h_p0_blank h_p0_queue maps tables words blank queue ((x3 * (nI 6)) + x5) r34 h34) k_S_76 ⟨rfl, rfl, by decide, by decide⟩ 0 rfl rfl rfl hl hP hD hS [0, 1, 2, 3, 4, 5] [] [0, 1, 2, 3, 4, 5] rfl rfl rfl (by decide) rfl rfl rfl rfl rfl (Nat.le_of_ble_eq_true rfl) rfl d_S_roomiestGroup_34 (fun H locs hP hD hS => ?_)
      refine lv_if_eq hx hb d_S_roomiestGroup_37 rfl (fun hc => ?_) (fun hc => ?_)
      · rw [if_pos hc] at h
        refine lv_iconst (v := (nI 0)) hx hb d_S_roomiestGroup_44 (by decide) ?_
        exact w_S_roomiestGroup_45 h_p0 h_p0_maps h_p0_tables h_p0_words h_p0_blank h_p0_queue F maps tables words blank queue r _ _ ⟨cf, hr, hlk, hK, hN, hA⟩ h6 ih x1 x2 x3 x5 x4 (nI 0) h H locs ls (lv_sub hl [0, 1, 2, 3, 5] rfl) hP hD hS
      · rw [if_neg hc] at h
        refine lv_iconst (v := (nI 1)) hx hb d_S_roomiestGroup_40 (by decide) ?_
        refine lv_goto hx hb d_S_roomiestGroup_41 rfl ?_
        exact w_S_roomiestGroup_45 h_p0 h_p0_maps h_p0_tables h_p0_words h_p0_blank h_p0_queue F maps tables words blank queue r _ _ ⟨cf, hr, hlk, hK, hN, hA⟩ h6 ih x1 x2 x3 x5 x4 (nI 1) h H locs ls (lv_sub hl [0, 1, 2, 3, 5] rfl) hP hD hS
set_option maxHeartbeats 4000000 in
set_option maxRecDepth 100000 in
theorem w_S_roomiestGroup_6 {p : Program} {l : Launch} {e : Env} {s : State} {m : MethodId} {args : Array Value} {below : List Frame} {meth : Method} {c : Code} {D : va_G} {cI cZ : ClassId} {A : Nat → Prop} (h_p0 h_p0_maps h_p0_tables h_p0_words h_p0_blank h_p0_queue : Nat) (F : Nat) (maps : (Nat → Int32)) (tables : (Nat → Int32)) (words : (Nat → Int32)) (blank : (Nat → Int32)) (queue : (Nat → Int32)) (r : Int32) (cx : cx_ok p s m args meth c b_S_roomiestGroup 6 o_S_roomiestGroup "OrderedVolume$Store" (some .int) D cI cZ A) : ∀ (n : Nat) (x1 : Int32) (x2 : Int32) (x3 : Int32), s_S_roomiestGroup_6 F maps tables n x1 x2 x3 = some r → wk_G p l e rm_S_roomiestGroup s m args below meth c (sc_Qi below args s D cI cZ A (w_S cI cZ h_p0 h_p0_maps h_p0_tables h_p0_words h_p0_blank h_p0_queue maps tables words blank queue) r) D A 6 6 [] [(0, .ref h_p0), (1, .int x1), (2, .int x2), (3, .int x3)] (w_S cI cZ h_p0 h_p0_maps h_p0_tables h_p0_words h_p0_blank h_p0_queue maps tables words blank queue) := by
  obtain ⟨cf, hr, hlk, hK, hN, hA⟩ := cx
  have hx := cf.1
  have hb := cf.2.1
  have hown := cf.2.2.2.1
  have ht : ∀ w ∈ wA, w.before args s = true := fun w h => cf.2.2.2.2 w (List.mem_cons_of_mem _ h)
  intro n
  induction n with
  | zero => intro x1 x2 x3 h; cases (show (none : Option (Int32)) = some _ from h)
  | succ n ih =>
    intro x1 x2 x3 h H locs ls hl hP hD hS
    unfold s_S_roomiestGroup_6 at h
    refine lv_iload_n hx hb d_S_roomiestGroup_6 rfl (lv_at hl 3 rfl) ?_
    refine lv_iconst (v := (nI 3)) hx hb d_S_roomiestGroup_7 (by decide) ?_
    refine lv_icmp_ge hx hb d_S_roomiestGroup_8 rfl (fun hc => ?_) (fun hc => ?_)
    · rw [if_pos hc] at h
      refine lv_iload_n hx hb d_S_roomiestGroup_71 rfl (lv_at hl 1 rfl) ?_
      cases h
      exact sc_iret cf hr hlk hK hP hD hS d_S_roomiestGroup_72
    · rw [if_neg hc] at h
      refine lv_iconst (v := (nI 0)) hx hb d_S_roomiestGroup_11 (by decide) ?_
      refine lv_istore (lv' := [(4, .int (nI 0)), (0, .ref h_p0), (1, .int x1), (2, .int x2), (3, .int x3)]) hx hb d_S_roomiestGroup_12 hl (by decide) rfl (fun ls hl => ?_)
      refine lv_iconst (v := (nI 0)) hx hb d_S_roomiestGroup_14 (by decide) ?_
      refine lv_istore (lv' := [(5, .int (nI 0)), (4, .int (nI 0)), (0, .ref h_p0), (1, .int x1), (2, .int x2), (3, .int x3)]) hx hb d_S_roomiestGroup_15 hl (by decide) rfl (fun ls hl => ?_)
      exact w_S_roomiestGroup_17 h_p0 h_p0_maps h_p0_tables h_p0_words h_p0_blank h_p0_queue F maps tables words blank queue r _ ⟨cf, hr, hlk, hK, hN, hA⟩ ih F x1 x2 x3 (nI 0) (nI 0) h H locs ls (lv_sub hl [2, 3, 4, 5, 1, 0] rfl) hP hD hS
set_option maxHeartbeats 4000000 in
set_option maxRecDepth 100000 in
theorem c_S_roomiestGroup (l : Launch) (D : va_G) (cI cZ : ClassId) (h_p0 h_p0_maps h_p0_tables h_p0_words h_p0_blank h_p0_queue : Nat) (F : Nat) (maps : (Nat → Int32)) (tables : (Nat → Int32)) (words : (Nat → Int32)) (blank : (Nat → Int32)) (queue : (Nat → Int32)) (r : Int32) (h : s_S_roomiestGroup F maps tables = some r) : sc_i l y_S_roomiestGroup (o_S_roomiestGroup :: wA) rm_S_roomiestGroup D cI cZ [.ref h_p0] (w_S cI cZ h_p0 h_p0_maps h_p0_tables h_p0_words h_p0_blank h_p0_queue maps tables words blank queue) (w_S cI cZ h_p0 h_p0_maps h_p0_tables h_p0_words h_p0_blank h_p0_queue maps tables words blank queue) r := by
  refine sc_i_of (cc := b_S_roomiestGroup) (maxL := 6) (ret := (some .int)) (by decide) rfl (Nat.le_of_ble_eq_true rfl) ?_
  intro p e s m below meth c A cf hr hlk hK hN hA H locs ls hl hP hD hS
  have hx := cf.1
  have hb := cf.2.1
  have hown := cf.2.2.2.1
  have ht : ∀ w ∈ wA, w.before _ s = true := fun w h => cf.2.2.2.2 w (List.mem_cons_of_mem _ h)
  unfold s_S_roomiestGroup at h
  have hl : lv_has ls 6 [(0, .ref h_p0)] := hl
  refine lv_iconst (v := (nI 0)) hx hb d_S_roomiestGroup_0 (by decide) ?_
  refine lv_istore_n (lv' := [(1, .int (nI 0)), (0, .ref h_p0)]) hx hb d_S_roomiestGroup_1 rfl hl (by decide) rfl (fun ls hl => ?_)
  refine lv_iconst (v := (nI 0)) hx hb d_S_roomiestGroup_2 (by decide) ?_
  refine lv_istore_n (lv' := [(2, .int (nI 0)), (1, .int (nI 0)), (0, .ref h_p0)]) hx hb d_S_roomiestGroup_3 rfl hl (by decide) rfl (fun ls hl => ?_)
  refine lv_iconst (v := (nI 0)) hx hb d_S_roomiestGroup_4 (by decide) ?_
  refine lv_istore_n (lv' := [(3, .int (nI 0)), (2, .int (nI 0)), (1, .int (nI 0)), (0, .ref h_p0)]) hx hb d_S_roomiestGroup_5 rfl hl (by decide) rfl (fun ls hl => ?_)
  exact w_S_roomiestGroup_6 h_p0 h_p0_maps h_p0_tables h_p0_words h_p0_blank h_p0_queue F maps tables words blank queue r ⟨cf, hr, hlk, hK, hN, hA⟩ F (nI 0) (nI 0) (nI 0) h H locs ls (lv_sub hl [3, 2, 1, 0] rfl) hP hD hS
set_option maxHeartbeats 4000000 in
set_option maxRecDepth 100000 in
theorem w_S_sameBlock_8 {p : Program} {l : Launch} {e : Env} {s : State} {m : MethodId} {args : Array Value} {below : List Frame} {meth : Method} {c : Code} {D : va_G} {cI cZ : ClassId} {A : Nat → Prop} (h_p0 h_p0_maps h_p0_tables h_p0_words h_p0_blank h_p0_queue h_p1 h_p1_maps h_p1_tables h_p1_words h_p1_blank h_p1_queue : Nat) (F : Nat) (maps : (Nat → Int32)) (tables : (Nat → Int32)) (words : (Nat → Int32)) (blank : (Nat → Int32)) (queue : (Nat → Int32)) (p1_maps : (Nat → Int32)) (p1_tables : (Nat → Int32)) (p1_words : (Nat → Int32)) (p1_blank : (Nat → Int32)) (p1_queue : (Nat → Int32)) (r : Int32) (cx : cx_ok p s m args meth c b_S_sameBlock 5 o_S_sameBlock "OrderedVolume$Store" (some .boolean) D cI cZ A) : ∀ (n : Nat) (x2 : Int32) (x3 : Int32) (x4 : Int32), s_S_sameBlock_8 F maps tables words p1_maps p1_tables p1_words n x2 x3 x4 = some r → wk_G p l e rm_S_sameBlock s m args below meth c (sc_Qi below args s D cI cZ A ((w_S cI cZ h_p0 h_p0_maps h_p0_tables h_p0_words h_p0_blank h_p0_queue maps tables words blank queue) ++ (w_S cI cZ h_p1 h_p1_maps h_p1_tables h_p1_words h_p1_blank h_p1_queue p1_maps p1_tables p1_words p1_blank p1_queue)) r) D A 5 8 [] [(0, .ref h_p0), (1, .ref h_p1), (2, .int x2), (3, .int x3), (4, .int x4)] ((w_S cI cZ h_p0 h_p0_maps h_p0_tables h_p0_words h_p0_blank h_p0_queue maps tables words blank queue) ++ (w_S cI cZ h_p1 h_p1_maps h_p1_tables h_p1_words h_p1_blank h_p1_queue p1_maps p1_tables p1_words p1_blank p1_queue)) := by
  obtain ⟨cf, hr, hlk, hK, hN, hA⟩ := cx
  have hx := cf.1
  have hb := cf.2.1
  have hown := cf.2.2.2.1
  have ht : ∀ w ∈ wA, w.before args s = true := fun w h => cf.2.2.2.2 w (List.mem_cons_of_mem _ h)
  intro n
  induction n with
  | zero => intro x2 x3 x4 h; cases (show (none : Option (Int32)) = some _ from h)
  | succ n ih =>
    intro x2 x3 x4 h H locs ls hl hP hD hS
    unfold s_S_sameBlock_8 at h
    refine lv_iload hx hb d_S_sameBlock_8 (lv_at hl 4 rfl) ?_
    refine lv_iload_n hx hb d_S_sameBlock_10 rfl (lv_at hl 3 rfl) ?_
    refine lv_icmp_ge hx hb d_S_sameBlock_11 rfl (fun hc => ?_) (fun hc => ?_)
    · rw [if_pos hc] at h
      refine lv_iconst (v := (nI 1)) hx hb d_S_sameBlock_39 (by decide) ?_
      have hz : ((nI 1) : Int32) = 0 ∨ ((nI 1) : Int32) = 1 := by decide
      cases h
      exact sc_zret cf hr hlk hz hK hP hD hS d_S_sameBlock_40
    · rw [if_neg hc] at h
      refine lv_aload_n hx hb d_S_sameBlock_14 rfl (lv_at hl 0 rfl) ?_
      refine lv_iload_n hx hb d_S_sameBlock_15 rfl (lv_at hl 2 rfl) ?_
      refine lv_iload hx hb d_S_sameBlock_16 (lv_at hl 4 rfl) ?_
      obtain ⟨r18, h18, h⟩ := bd_some h
      refine wk_Vi (As := [.int x2, .int x4]) (rest := []) (wc := (w_S cI cZ h_p0 h_p0_maps h_p0_tables h_p0_words h_p0_blank h_p0_queue maps tables words blank queue)) (w1 := (w_S cI cZ h_p0 h_p0_maps h_p0_tables h_p0_words h_p0_blank h_p0_queue maps tables words blank queue)) (wr := [(h_p1, .inr (0, [.ref h_p1_maps, .ref h_p1_tables, .ref h_p1_words, .ref h_p1_blank, .ref h_p1_queue])), (h_p1_maps, .inl (cI, 48, .inl p1_maps)), (h_p1_tables, .inl (cI, 90, .inl p1_tables)), (h_p1_words, .inl (cI, 288, .inl p1_words)), (h_p1_blank, .inl (cZ, 36, .inl p1_blank)), (h_p1_queue, .inl (cI, 18, .inl p1_queue))]) (wz := ((w_S cI cZ h_p0 h_p0_maps h_p0_tables h_p0_words h_p0_blank h_p0_queue maps tables words blank queue) ++ (w_S cI cZ h_p1 h_p1_maps h_p1_tables h_p1_words h_p1_blank h_p1_queue p1_maps p1_tables p1_words p1_blank p1_queue))) cf hK hN hA (c_S_cell l D cI cZ h_p0 h_p0_maps h_p0_tables h_p0_words h_p0_blank h_p0_queue maps tables words blank queue x2 x4 r18 h18) k_S_49 ⟨rfl, rfl, by decide, by decide⟩ 0 rfl rfl rfl hl hP hD hS [0, 1, 2, 3, 4, 5] [6, 7, 8, 9, 10, 11] [6, 7, 8, 9, 10, 11, 0, 1, 2, 3, 4, 5] rfl rfl rfl (by decide) rfl rfl rfl rfl rfl (Nat.le_of_ble_eq_true rfl) rfl d_S_sameBlock_18 (fun H locs hP hD hS => ?_)
      refine lv_aload_n hx hb d_S_sameBlock_21 rfl (lv_at hl 1 rfl) ?_
      refine lv_iload_n hx hb d_S_sameBlock_22 rfl (lv_at hl 2 rfl) ?_
      refine lv_iload hx hb d_S_sameBlock_23 (lv_at hl 4 rfl) ?_
      obtain ⟨r25, h25, h⟩ := bd_some h
      refine wk_Vi (As := [.int x2, .int x4]) (rest := [.int r18]) (wc := (w_S cI cZ h_p1 h_p1_maps h_p1_tables h_p1_words h_p1_blank h_p1_queue p1_maps p1_tables p1_words p1_blank p1_queue)) (w1 := (w_S cI cZ h_p1 h_p1_maps h_p1_tables h_p1_words h_p1_blank h_p1_queue p1_maps p1_tables p1_words p1_blank p1_queue)) (wr := [(h_p0, .inr (0, [.ref h_p0_maps, .ref h_p0_tables, .ref h_p0_words, .ref h_p0_blank, .ref h_p0_queue])), (h_p0_maps, .inl (cI, 48, .inl maps)), (h_p0_tables, .inl (cI, 90, .inl tables)), (h_p0_words, .inl (cI, 288, .inl words)), (h_p0_blank, .inl (cZ, 36, .inl blank)), (h_p0_queue, .inl (cI, 18, .inl queue))]) (wz := ((w_S cI cZ h_p0 h_p0_maps h_p0_tables h_p0_words h_p0_blank h_p0_queue maps tables words blank queue) ++ (w_S cI cZ h_p1 h_p1_maps h_p1_tables h_p1_words h_p1_blank h_p1_queue p1_maps p1_tables p1_words p1_blank p1_queue))) cf hK hN hA (c_S_cell l D cI cZ h_p1 h_p1_maps h_p1_tables h_p1_words h_p1_blank h_p1_queue p1_maps p1_tables p1_words p1_blank p1_queue x2 x4 r25 h25) k_S_49 ⟨rfl, rfl, by decide, by decide⟩ 0 rfl rfl rfl hl hP hD hS [6, 7, 8, 9, 10, 11] [0, 1, 2, 3, 4, 5] [0, 1, 2, 3, 4, 5, 6, 7, 8, 9, 10, 11] rfl rfl rfl (by decide) rfl rfl rfl rfl rfl (Nat.le_of_ble_eq_true rfl) rfl d_S_sameBlock_25 (fun H locs hP hD hS => ?_)
      refine lv_icmp_eq hx hb d_S_sameBlock_28 rfl (fun hc => ?_) (fun hc => ?_)
      · rw [if_pos hc] at h
        refine lv_iinc (k := 4) (v := (x4 + (nI 1))) (lv' := [(4, .int (x4 + (nI 1))), (0, .ref h_p0), (1, .ref h_p1), (2, .int x2), (3, .int x3)]) hx hb d_S_sameBlock_33 hl rfl rfl (by decide) rfl (fun ls hl => ?_)
        refine lv_goto hx hb d_S_sameBlock_36 rfl ?_
        exact ih x2 x3 (x4 + (nI 1)) h H locs ls (lv_sub hl [1, 2, 3, 4, 0] rfl) hP hD hS
      · rw [if_neg hc] at h
        refine lv_iconst (v := (nI 0)) hx hb d_S_sameBlock_31 (by decide) ?_
        have hz : ((nI 0) : Int32) = 0 ∨ ((nI 0) : Int32) = 1 := by decide
        cases h
        exact sc_zret cf hr hlk hz hK hP hD hS d_S_sameBlock_32
set_option maxHeartbeats 4000000 in
set_option maxRecDepth 100000 in
theorem c_S_sameBlock (l : Launch) (D : va_G) (cI cZ : ClassId) (h_p0 h_p0_maps h_p0_tables h_p0_words h_p0_blank h_p0_queue h_p1 h_p1_maps h_p1_tables h_p1_words h_p1_blank h_p1_queue : Nat) (F : Nat) (maps : (Nat → Int32)) (tables : (Nat → Int32)) (words : (Nat → Int32)) (blank : (Nat → Int32)) (queue : (Nat → Int32)) (p1_maps : (Nat → Int32)) (p1_tables : (Nat → Int32)) (p1_words : (Nat → Int32)) (p1_blank : (Nat → Int32)) (p1_queue : (Nat → Int32)) (x2 : Int32) (r : Int32) (h : s_S_sameBlock F maps tables words p1_maps p1_tables p1_words x2 = some r) : sc_i l y_S_sameBlock (o_S_sameBlock :: wA) rm_S_sameBlock D cI cZ [.ref h_p0, .ref h_p1, .int x2] ((w_S cI cZ h_p0 h_p0_maps h_p0_tables h_p0_words h_p0_blank h_p0_queue maps tables words blank queue) ++ (w_S cI cZ h_p1 h_p1_maps h_p1_tables h_p1_words h_p1_blank h_p1_queue p1_maps p1_tables p1_words p1_blank p1_queue)) ((w_S cI cZ h_p0 h_p0_maps h_p0_tables h_p0_words h_p0_blank h_p0_queue maps tables words blank queue) ++ (w_S cI cZ h_p1 h_p1_maps h_p1_tables h_p1_words h_p1_blank h_p1_queue p1_maps p1_tables p1_words p1_blank p1_queue)) r := by
  refine sc_i_of (cc := b_S_sameBlock) (maxL := 5) (ret := (some .boolean)) (by decide) rfl (Nat.le_of_ble_eq_true rfl) ?_
  intro p e s m below meth c A cf hr hlk hK hN hA H locs ls hl hP hD hS
  have hx := cf.1
  have hb := cf.2.1
  have hown := cf.2.2.2.1
  have ht : ∀ w ∈ wA, w.before _ s = true := fun w h => cf.2.2.2.2 w (List.mem_cons_of_mem _ h)
  unfold s_S_sameBlock at h
  have hl : lv_has ls 5 [(0, .ref h_p0), (1, .ref h_p1), (2, .int x2)] := hl
  refine lv_iload_n hx hb d_S_sameBlock_0 rfl (lv_at hl 2 rfl) ?_
  obtain ⟨r1, h1, h⟩ := bd_some h
  refine wk_Ni (As := [.int x2]) (rest := []) (wc := []) (w1 := []) (wr := [(h_p0, .inr (0, [.ref h_p0_maps, .ref h_p0_tables, .ref h_p0_words, .ref h_p0_blank, .ref h_p0_queue])), (h_p0_maps, .inl (cI, 48, .inl maps)), (h_p0_tables, .inl (cI, 90, .inl tables)), (h_p0_words, .inl (cI, 288, .inl words)), (h_p0_blank, .inl (cZ, 36, .inl blank)), (h_p0_queue, .inl (cI, 18, .inl queue)), (h_p1, .inr (0, [.ref h_p1_maps, .ref h_p1_tables, .ref h_p1_words, .ref h_p1_blank, .ref h_p1_queue])), (h_p1_maps, .inl (cI, 48, .inl p1_maps)), (h_p1_tables, .inl (cI, 90, .inl p1_tables)), (h_p1_words, .inl (cI, 288, .inl p1_words)), (h_p1_blank, .inl (cZ, 36, .inl p1_blank)), (h_p1_queue, .inl (cI, 18, .inl p1_queue))]) (wz := ((w_S cI cZ h_p0 h_p0_maps h_p0_tables h_p0_words h_p0_blank h_p0_queue maps tables words blank queue) ++ (w_S cI cZ h_p1 h_p1_maps h_p1_tables h_p1_words h_p1_blank h_p1_queue p1_maps p1_tables p1_words p1_blank p1_queue))) cf hK hN hA (c_V_cellCount l D cI cZ 0 x2 r1 h1) k_S_45 hN.1 ⟨rfl, rfl, by decide, by decide⟩ hl hP hD hS [] [0, 1, 2, 3, 4, 5, 6, 7, 8, 9, 10, 11] [0, 1, 2, 3, 4, 5, 6, 7, 8, 9, 10, 11] rfl rfl rfl (by decide) rfl rfl rfl rfl rfl (Nat.le_of_ble_eq_true rfl) rfl d_S_sameBlock_1 (fun H locs hP hD hS => ?_)
  refine lv_istore_n (lv' := [(3, .int r1), (0, .ref h_p0), (1, .ref h_p1), (2, .int x2)]) hx hb d_S_sameBlock_4 rfl hl (by decide) rfl (fun ls hl => ?_)
  refine lv_iconst (v := (nI 0)) hx hb d_S_sameBlock_5 (by decide) ?_
  refine lv_istore (lv' := [(4, .int (nI 0)), (3, .int r1), (0, .ref h_p0), (1, .ref h_p1), (2, .int x2)]) hx hb d_S_sameBlock_6 hl (by decide) rfl (fun ls hl => ?_)
  exact w_S_sameBlock_8 h_p0 h_p0_maps h_p0_tables h_p0_words h_p0_blank h_p0_queue h_p1 h_p1_maps h_p1_tables h_p1_words h_p1_blank h_p1_queue F maps tables words blank queue p1_maps p1_tables p1_words p1_blank p1_queue r ⟨cf, hr, hlk, hK, hN, hA⟩ F x2 r1 (nI 0) h H locs ls (lv_sub hl [2, 3, 4, 1, 0] rfl) hP hD hS
set_option maxHeartbeats 4000000 in
set_option maxRecDepth 100000 in
theorem c_S_setBlank (l : Launch) (D : va_G) (cI cZ : ClassId) (h_p0 h_p0_maps h_p0_tables h_p0_words h_p0_blank h_p0_queue : Nat) (maps : (Nat → Int32)) (tables : (Nat → Int32)) (words : (Nat → Int32)) (blank : (Nat → Int32)) (queue : (Nat → Int32)) (blank' : (Nat → Int32)) (x1 : Int32) (x2 : Int32) (h : s_S_setBlank x1 x2 blank = some blank') : sc_v l y_S_setBlank (o_S_setBlank :: wA) rm_S_setBlank D cI cZ [.ref h_p0, .int x1, .int x2] (w_S cI cZ h_p0 h_p0_maps h_p0_tables h_p0_words h_p0_blank h_p0_queue maps tables words blank queue) (w_S cI cZ h_p0 h_p0_maps h_p0_tables h_p0_words h_p0_blank h_p0_queue maps tables words (blank') queue) := by
  refine sc_v_of (cc := b_S_setBlank) (maxL := 3) (ret := none) (by decide) rfl (Nat.le_of_ble_eq_true rfl) ?_
  intro p e s m below meth c A cf hr hlk hK hN hA H locs ls hl hP hD hS
  have hx := cf.1
  have hb := cf.2.1
  have hown := cf.2.2.2.1
  have ht : ∀ w ∈ wA, w.before _ s = true := fun w h => cf.2.2.2.2 w (List.mem_cons_of_mem _ h)
  unfold s_S_setBlank at h
  have hl : lv_has ls 3 [(0, .ref h_p0), (1, .int x1), (2, .int x2)] := hl
  refine lv_aload_n hx hb d_S_setBlank_0 rfl (lv_at hl 0 rfl) ?_
  refine va_get (D := D) (ci := 0) (v := .ref h_p0_blank) (C := R_S) (T := F_S) (N := 5) hx hb ht in_S hown hK hP 0 rfl rfl 3 (by decide) (ht _ f_S_21) (fun _ h9 => h9) rfl d_S_setBlank_1 ?_
  refine lv_iload_n hx hb d_S_setBlank_4 rfl (lv_at hl 1 rfl) ?_
  refine lv_iload_n hx hb d_S_setBlank_5 rfl (lv_at hl 2 rfl) ?_
  obtain ⟨hin, h⟩ := ga_some h
  refine va_zast hx hb hK hP hD hS 4 1 rfl rfl hin d_S_setBlank_6 (fun H locs hP hD hS => ?_)
  have hP : va_P D clA (w_S cI cZ h_p0 h_p0_maps h_p0_tables h_p0_words h_p0_blank h_p0_queue maps tables words (upd blank x1.toNatClampNeg (vp_nar .boolean x2)) queue) H := hP
  have hD : va_D A (w_S cI cZ h_p0 h_p0_maps h_p0_tables h_p0_words h_p0_blank h_p0_queue maps tables words (upd blank x1.toNatClampNeg (vp_nar .boolean x2)) queue) := hD
  cases h
  exact sc_vret cf hr hlk hK hP hD hS d_S_setBlank_7
set_option maxHeartbeats 4000000 in
set_option maxRecDepth 100000 in
theorem c_S_setBlockMark (l : Launch) (D : va_G) (cI cZ : ClassId) (h_p0 h_p0_maps h_p0_tables h_p0_words h_p0_blank h_p0_queue : Nat) (maps : (Nat → Int32)) (tables : (Nat → Int32)) (words : (Nat → Int32)) (blank : (Nat → Int32)) (queue : (Nat → Int32)) (maps' : (Nat → Int32)) (x1 : Int32) (x2 : Int32) (h : s_S_setBlockMark x1 x2 maps = some maps') : sc_v l y_S_setBlockMark (o_S_setBlockMark :: wA) rm_S_setBlockMark D cI cZ [.ref h_p0, .int x1, .int x2] (w_S cI cZ h_p0 h_p0_maps h_p0_tables h_p0_words h_p0_blank h_p0_queue maps tables words blank queue) (w_S cI cZ h_p0 h_p0_maps h_p0_tables h_p0_words h_p0_blank h_p0_queue (maps') tables words blank queue) := by
  refine sc_v_of (cc := b_S_setBlockMark) (maxL := 3) (ret := none) (by decide) rfl (Nat.le_of_ble_eq_true rfl) ?_
  intro p e s m below meth c A cf hr hlk hK hN hA H locs ls hl hP hD hS
  have hx := cf.1
  have hb := cf.2.1
  have hown := cf.2.2.2.1
  have ht : ∀ w ∈ wA, w.before _ s = true := fun w h => cf.2.2.2.2 w (List.mem_cons_of_mem _ h)
  unfold s_S_setBlockMark at h
  have hl : lv_has ls 3 [(0, .ref h_p0), (1, .int x1), (2, .int x2)] := hl
  refine lv_aload_n hx hb d_S_setBlockMark_0 rfl (lv_at hl 0 rfl) ?_
  refine va_get (D := D) (ci := 0) (v := .ref h_p0_maps) (C := R_S) (T := F_S) (N := 5) hx hb ht in_S hown hK hP 0 rfl rfl 0 (by decide) (ht _ f_S_9) (fun _ h9 => h9) rfl d_S_setBlockMark_1 ?_
  refine lv_iload_n hx hb d_S_setBlockMark_4 rfl (lv_at hl 1 rfl) ?_
  refine lv_bipush (v := (nI 12)) hx hb d_S_setBlockMark_5 (by decide) ?_
  refine lv_idiv hx hb d_S_setBlockMark_7 (by decide) ?_
  refine lv_bipush (v := (nI 16)) hx hb d_S_setBlockMark_8 (by decide) ?_
  refine lv_imul hx hb d_S_setBlockMark_10 ?_
  refine lv_bipush (v := (nI 6)) hx hb d_S_setBlockMark_11 (by decide) ?_
  refine lv_iadd hx hb d_S_setBlockMark_13 ?_
  refine lv_iload_n hx hb d_S_setBlockMark_14 rfl (lv_at hl 1 rfl) ?_
  refine lv_bipush (v := (nI 12)) hx hb d_S_setBlockMark_15 (by decide) ?_
  refine lv_irem hx hb d_S_setBlockMark_17 (by decide) ?_
  refine lv_iadd hx hb d_S_setBlockMark_18 ?_
  refine lv_iconst (v := (nI 2)) hx hb d_S_setBlockMark_19 (by decide) ?_
  refine lv_isub hx hb d_S_setBlockMark_20 ?_
  refine lv_iload_n hx hb d_S_setBlockMark_21 rfl (lv_at hl 2 rfl) ?_
  obtain ⟨hin, h⟩ := ga_some h
  refine va_iast hx hb hK hP hD hS 1 0 rfl rfl hin d_S_setBlockMark_22 (fun H locs hP hD hS => ?_)
  have hP : va_P D clA (w_S cI cZ h_p0 h_p0_maps h_p0_tables h_p0_words h_p0_blank h_p0_queue (upd maps (((((x1 / (nI 12)) * (nI 16)) + (nI 6)) + (x1 - x1 / (nI 12) * (nI 12))) - (nI 2)).toNatClampNeg x2) tables words blank queue) H := hP
  have hD : va_D A (w_S cI cZ h_p0 h_p0_maps h_p0_tables h_p0_words h_p0_blank h_p0_queue (upd maps (((((x1 / (nI 12)) * (nI 16)) + (nI 6)) + (x1 - x1 / (nI 12) * (nI 12))) - (nI 2)).toNatClampNeg x2) tables words blank queue) := hD
  cases h
  exact sc_vret cf hr hlk hK hP hD hS d_S_setBlockMark_23
set_option maxHeartbeats 4000000 in
set_option maxRecDepth 100000 in
theorem c_S_setInodeMark (l : Launch) (D : va_G) (cI cZ : ClassId) (h_p0 h_p0_maps h_p0_tables h_p0_words h_p0_blank h_p0_queue : Nat) (maps : (Nat → Int32)) (tables : (Nat → Int32)) (words : (Nat → Int32)) (blank : (Nat → Int32)) (queue : (Nat → Int32)) (maps' : (Nat → Int32)) (x1 : Int32) (x2 : Int32) (h : s_S_setInodeMark x1 x2 maps = some maps') : sc_v l y_S_setInodeMark (o_S_setInodeMark :: wA) rm_S_setInodeMark D cI cZ [.ref h_p0, .int x1, .int x2] (w_S cI cZ h_p0 h_p0_maps h_p0_tables h_p0_words h_p0_blank h_p0_queue maps tables words blank queue) (w_S cI cZ h_p0 h_p0_maps h_p0_tables h_p0_words h_p0_blank h_p0_queue (maps') tables words blank queue) := by
  refine sc_v_of (cc := b_S_setInodeMark) (maxL := 3) (ret := none) (by decide) rfl (Nat.le_of_ble_eq_true rfl) ?_
  intro p e s m below meth c A cf hr hlk hK hN hA H locs ls hl hP hD hS
  have hx := cf.1
  have hb := cf.2.1
  have hown := cf.2.2.2.1
  have ht : ∀ w ∈ wA, w.before _ s = true := fun w h => cf.2.2.2.2 w (List.mem_cons_of_mem _ h)
  unfold s_S_setInodeMark at h
  have hl : lv_has ls 3 [(0, .ref h_p0), (1, .int x1), (2, .int x2)] := hl
  refine lv_aload_n hx hb d_S_setInodeMark_0 rfl (lv_at hl 0 rfl) ?_
  refine va_get (D := D) (ci := 0) (v := .ref h_p0_maps) (C := R_S) (T := F_S) (N := 5) hx hb ht in_S hown hK hP 0 rfl rfl 0 (by decide) (ht _ f_S_9) (fun _ h9 => h9) rfl d_S_setInodeMark_1 ?_
  refine lv_iload_n hx hb d_S_setInodeMark_4 rfl (lv_at hl 1 rfl) ?_
  refine lv_bipush (v := (nI 6)) hx hb d_S_setInodeMark_5 (by decide) ?_
  refine lv_idiv hx hb d_S_setInodeMark_7 (by decide) ?_
  refine lv_bipush (v := (nI 16)) hx hb d_S_setInodeMark_8 (by decide) ?_
  refine lv_imul hx hb d_S_setInodeMark_10 ?_
  refine lv_iload_n hx hb d_S_setInodeMark_11 rfl (lv_at hl 1 rfl) ?_
  refine lv_bipush (v := (nI 6)) hx hb d_S_setInodeMark_12 (by decide) ?_
  refine lv_irem hx hb d_S_setInodeMark_14 (by decide) ?_
  refine lv_iadd hx hb d_S_setInodeMark_15 ?_
  refine lv_iload_n hx hb d_S_setInodeMark_16 rfl (lv_at hl 2 rfl) ?_
  obtain ⟨hin, h⟩ := ga_some h
  refine va_iast hx hb hK hP hD hS 1 0 rfl rfl hin d_S_setInodeMark_17 (fun H locs hP hD hS => ?_)
  have hP : va_P D clA (w_S cI cZ h_p0 h_p0_maps h_p0_tables h_p0_words h_p0_blank h_p0_queue (upd maps (((x1 / (nI 6)) * (nI 16)) + (x1 - x1 / (nI 6) * (nI 6))).toNatClampNeg x2) tables words blank queue) H := hP
  have hD : va_D A (w_S cI cZ h_p0 h_p0_maps h_p0_tables h_p0_words h_p0_blank h_p0_queue (upd maps (((x1 / (nI 6)) * (nI 16)) + (x1 - x1 / (nI 6) * (nI 6))).toNatClampNeg x2) tables words blank queue) := hD
  cases h
  exact sc_vret cf hr hlk hK hP hD hS d_S_setInodeMark_18
set_option maxHeartbeats 4000000 in
set_option maxRecDepth 100000 in
theorem c_S_setKind (l : Launch) (D : va_G) (cI cZ : ClassId) (h_p0 h_p0_maps h_p0_tables h_p0_words h_p0_blank h_p0_queue : Nat) (maps : (Nat → Int32)) (tables : (Nat → Int32)) (words : (Nat → Int32)) (blank : (Nat → Int32)) (queue : (Nat → Int32)) (tables' : (Nat → Int32)) (x1 : Int32) (x2 : Int32) (h : s_S_setKind x1 x2 tables = some tables') : sc_v l y_S_setKind (o_S_setKind :: wA) rm_S_setKind D cI cZ [.ref h_p0, .int x1, .int x2] (w_S cI cZ h_p0 h_p0_maps h_p0_tables h_p0_words h_p0_blank h_p0_queue maps tables words blank queue) (w_S cI cZ h_p0 h_p0_maps h_p0_tables h_p0_words h_p0_blank h_p0_queue maps (tables') words blank queue) := by
  refine sc_v_of (cc := b_S_setKind) (maxL := 3) (ret := none) (by decide) rfl (Nat.le_of_ble_eq_true rfl) ?_
  intro p e s m below meth c A cf hr hlk hK hN hA H locs ls hl hP hD hS
  have hx := cf.1
  have hb := cf.2.1
  have hown := cf.2.2.2.1
  have ht : ∀ w ∈ wA, w.before _ s = true := fun w h => cf.2.2.2.2 w (List.mem_cons_of_mem _ h)
  unfold s_S_setKind at h
  have hl : lv_has ls 3 [(0, .ref h_p0), (1, .int x1), (2, .int x2)] := hl
  refine lv_aload_n hx hb d_S_setKind_0 rfl (lv_at hl 0 rfl) ?_
  refine va_get (D := D) (ci := 0) (v := .ref h_p0_tables) (C := R_S) (T := F_S) (N := 5) hx hb ht in_S hown hK hP 0 rfl rfl 1 (by decide) (ht _ f_S_15) (fun _ h9 => h9) rfl d_S_setKind_1 ?_
  refine lv_iload_n hx hb d_S_setKind_4 rfl (lv_at hl 1 rfl) ?_
  refine lv_iconst (v := (nI 5)) hx hb d_S_setKind_5 (by decide) ?_
  refine lv_imul hx hb d_S_setKind_6 ?_
  refine lv_iload_n hx hb d_S_setKind_7 rfl (lv_at hl 2 rfl) ?_
  obtain ⟨hin, h⟩ := ga_some h
  refine va_iast hx hb hK hP hD hS 2 0 rfl rfl hin d_S_setKind_8 (fun H locs hP hD hS => ?_)
  have hP : va_P D clA (w_S cI cZ h_p0 h_p0_maps h_p0_tables h_p0_words h_p0_blank h_p0_queue maps (upd tables (x1 * (nI 5)).toNatClampNeg x2) words blank queue) H := hP
  have hD : va_D A (w_S cI cZ h_p0 h_p0_maps h_p0_tables h_p0_words h_p0_blank h_p0_queue maps (upd tables (x1 * (nI 5)).toNatClampNeg x2) words blank queue) := hD
  cases h
  exact sc_vret cf hr hlk hK hP hD hS d_S_setKind_9
set_option maxHeartbeats 4000000 in
set_option maxRecDepth 100000 in
theorem c_S_setLinks (l : Launch) (D : va_G) (cI cZ : ClassId) (h_p0 h_p0_maps h_p0_tables h_p0_words h_p0_blank h_p0_queue : Nat) (maps : (Nat → Int32)) (tables : (Nat → Int32)) (words : (Nat → Int32)) (blank : (Nat → Int32)) (queue : (Nat → Int32)) (tables' : (Nat → Int32)) (x1 : Int32) (x2 : Int32) (h : s_S_setLinks x1 x2 tables = some tables') : sc_v l y_S_setLinks (o_S_setLinks :: wA) rm_S_setLinks D cI cZ [.ref h_p0, .int x1, .int x2] (w_S cI cZ h_p0 h_p0_maps h_p0_tables h_p0_words h_p0_blank h_p0_queue maps tables words blank queue) (w_S cI cZ h_p0 h_p0_maps h_p0_tables h_p0_words h_p0_blank h_p0_queue maps (tables') words blank queue) := by
  refine sc_v_of (cc := b_S_setLinks) (maxL := 3) (ret := none) (by decide) rfl (Nat.le_of_ble_eq_true rfl) ?_
  intro p e s m below meth c A cf hr hlk hK hN hA H locs ls hl hP hD hS
  have hx := cf.1
  have hb := cf.2.1
  have hown := cf.2.2.2.1
  have ht : ∀ w ∈ wA, w.before _ s = true := fun w h => cf.2.2.2.2 w (List.mem_cons_of_mem _ h)
  unfold s_S_setLinks at h
  have hl : lv_has ls 3 [(0, .ref h_p0), (1, .int x1), (2, .int x2)] := hl
  refine lv_aload_n hx hb d_S_setLinks_0 rfl (lv_at hl 0 rfl) ?_
  refine va_get (D := D) (ci := 0) (v := .ref h_p0_tables) (C := R_S) (T := F_S) (N := 5) hx hb ht in_S hown hK hP 0 rfl rfl 1 (by decide) (ht _ f_S_15) (fun _ h9 => h9) rfl d_S_setLinks_1 ?_
  refine lv_iload_n hx hb d_S_setLinks_4 rfl (lv_at hl 1 rfl) ?_
  refine lv_iconst (v := (nI 5)) hx hb d_S_setLinks_5 (by decide) ?_
  refine lv_imul hx hb d_S_setLinks_6 ?_
  refine lv_iconst (v := (nI 1)) hx hb d_S_setLinks_7 (by decide) ?_
  refine lv_iadd hx hb d_S_setLinks_8 ?_
  refine lv_iload_n hx hb d_S_setLinks_9 rfl (lv_at hl 2 rfl) ?_
  obtain ⟨hin, h⟩ := ga_some h
  refine va_iast hx hb hK hP hD hS 2 0 rfl rfl hin d_S_setLinks_10 (fun H locs hP hD hS => ?_)
  have hP : va_P D clA (w_S cI cZ h_p0 h_p0_maps h_p0_tables h_p0_words h_p0_blank h_p0_queue maps (upd tables ((x1 * (nI 5)) + (nI 1)).toNatClampNeg x2) words blank queue) H := hP
  have hD : va_D A (w_S cI cZ h_p0 h_p0_maps h_p0_tables h_p0_words h_p0_blank h_p0_queue maps (upd tables ((x1 * (nI 5)) + (nI 1)).toNatClampNeg x2) words blank queue) := hD
  cases h
  exact sc_vret cf hr hlk hK hP hD hS d_S_setLinks_11
set_option maxHeartbeats 4000000 in
set_option maxRecDepth 100000 in
theorem c_S_setPointer (l : Launch) (D : va_G) (cI cZ : ClassId) (h_p0 h_p0_maps h_p0_tables h_p0_words h_p0_blank h_p0_queue : Nat) (maps : (Nat → Int32)) (tables : (Nat → Int32)) (words : (Nat → Int32)) (blank : (Nat → Int32)) (queue : (Nat → Int32)) (tables' : (Nat → Int32)) (x1 : Int32) (x2 : Int32) (x3 : Int32) (h : s_S_setPointer x1 x2 x3 tables = some tables') : sc_v l y_S_setPointer (o_S_setPointer :: wA) rm_S_setPointer D cI cZ [.ref h_p0, .int x1, .int x2, .int x3] (w_S cI cZ h_p0 h_p0_maps h_p0_tables h_p0_words h_p0_blank h_p0_queue maps tables words blank queue) (w_S cI cZ h_p0 h_p0_maps h_p0_tables h_p0_words h_p0_blank h_p0_queue maps (tables') words blank queue) := by
  refine sc_v_of (cc := b_S_setPointer) (maxL := 4) (ret := none) (by decide) rfl (Nat.le_of_ble_eq_true rfl) ?_
  intro p e s m below meth c A cf hr hlk hK hN hA H locs ls hl hP hD hS
  have hx := cf.1
  have hb := cf.2.1
  have hown := cf.2.2.2.1
  have ht : ∀ w ∈ wA, w.before _ s = true := fun w h => cf.2.2.2.2 w (List.mem_cons_of_mem _ h)
  unfold s_S_setPointer at h
  have hl : lv_has ls 4 [(0, .ref h_p0), (1, .int x1), (2, .int x2), (3, .int x3)] := hl
  refine lv_aload_n hx hb d_S_setPointer_0 rfl (lv_at hl 0 rfl) ?_
  refine va_get (D := D) (ci := 0) (v := .ref h_p0_tables) (C := R_S) (T := F_S) (N := 5) hx hb ht in_S hown hK hP 0 rfl rfl 1 (by decide) (ht _ f_S_15) (fun _ h9 => h9) rfl d_S_setPointer_1 ?_
  refine lv_iload_n hx hb d_S_setPointer_4 rfl (lv_at hl 1 rfl) ?_
  refine lv_iconst (v := (nI 5)) hx hb d_S_setPointer_5 (by decide) ?_
  refine lv_imul hx hb d_S_setPointer_6 ?_
  refine lv_iconst (v := (nI 2)) hx hb d_S_setPointer_7 (by decide) ?_
  refine lv_iadd hx hb d_S_setPointer_8 ?_
  refine lv_iload_n hx hb d_S_setPointer_9 rfl (lv_at hl 2 rfl) ?_
  refine lv_iadd hx hb d_S_setPointer_10 ?_
  refine lv_iload_n hx hb d_S_setPointer_11 rfl (lv_at hl 3 rfl) ?_
  obtain ⟨hin, h⟩ := ga_some h
  refine va_iast hx hb hK hP hD hS 2 0 rfl rfl hin d_S_setPointer_12 (fun H locs hP hD hS => ?_)
  have hP : va_P D clA (w_S cI cZ h_p0 h_p0_maps h_p0_tables h_p0_words h_p0_blank h_p0_queue maps (upd tables (((x1 * (nI 5)) + (nI 2)) + x2).toNatClampNeg x3) words blank queue) H := hP
  have hD : va_D A (w_S cI cZ h_p0 h_p0_maps h_p0_tables h_p0_words h_p0_blank h_p0_queue maps (upd tables (((x1 * (nI 5)) + (nI 2)) + x2).toNatClampNeg x3) words blank queue) := hD
  cases h
  exact sc_vret cf hr hlk hK hP hD hS d_S_setPointer_13
set_option maxHeartbeats 4000000 in
set_option maxRecDepth 100000 in
theorem c_S_setWord (l : Launch) (D : va_G) (cI cZ : ClassId) (h_p0 h_p0_maps h_p0_tables h_p0_words h_p0_blank h_p0_queue : Nat) (maps : (Nat → Int32)) (tables : (Nat → Int32)) (words : (Nat → Int32)) (blank : (Nat → Int32)) (queue : (Nat → Int32)) (words' : (Nat → Int32)) (x1 : Int32) (x2 : Int32) (x3 : Int32) (h : s_S_setWord x1 x2 x3 words = some words') : sc_v l y_S_setWord (o_S_setWord :: wA) rm_S_setWord D cI cZ [.ref h_p0, .int x1, .int x2, .int x3] (w_S cI cZ h_p0 h_p0_maps h_p0_tables h_p0_words h_p0_blank h_p0_queue maps tables words blank queue) (w_S cI cZ h_p0 h_p0_maps h_p0_tables h_p0_words h_p0_blank h_p0_queue maps tables (words') blank queue) := by
  refine sc_v_of (cc := b_S_setWord) (maxL := 4) (ret := none) (by decide) rfl (Nat.le_of_ble_eq_true rfl) ?_
  intro p e s m below meth c A cf hr hlk hK hN hA H locs ls hl hP hD hS
  have hx := cf.1
  have hb := cf.2.1
  have hown := cf.2.2.2.1
  have ht : ∀ w ∈ wA, w.before _ s = true := fun w h => cf.2.2.2.2 w (List.mem_cons_of_mem _ h)
  unfold s_S_setWord at h
  have hl : lv_has ls 4 [(0, .ref h_p0), (1, .int x1), (2, .int x2), (3, .int x3)] := hl
  refine lv_aload_n hx hb d_S_setWord_0 rfl (lv_at hl 0 rfl) ?_
  refine va_get (D := D) (ci := 0) (v := .ref h_p0_words) (C := R_S) (T := F_S) (N := 5) hx hb ht in_S hown hK hP 0 rfl rfl 2 (by decide) (ht _ f_S_18) (fun _ h9 => h9) rfl d_S_setWord_1 ?_
  refine lv_iload_n hx hb d_S_setWord_4 rfl (lv_at hl 1 rfl) ?_
  refine lv_bipush (v := (nI 8)) hx hb d_S_setWord_5 (by decide) ?_
  refine lv_imul hx hb d_S_setWord_7 ?_
  refine lv_iload_n hx hb d_S_setWord_8 rfl (lv_at hl 2 rfl) ?_
  refine lv_iadd hx hb d_S_setWord_9 ?_
  refine lv_iload_n hx hb d_S_setWord_10 rfl (lv_at hl 3 rfl) ?_
  obtain ⟨hin, h⟩ := ga_some h
  refine va_iast hx hb hK hP hD hS 3 0 rfl rfl hin d_S_setWord_11 (fun H locs hP hD hS => ?_)
  have hP : va_P D clA (w_S cI cZ h_p0 h_p0_maps h_p0_tables h_p0_words h_p0_blank h_p0_queue maps tables (upd words ((x1 * (nI 8)) + x2).toNatClampNeg x3) blank queue) H := hP
  have hD : va_D A (w_S cI cZ h_p0 h_p0_maps h_p0_tables h_p0_words h_p0_blank h_p0_queue maps tables (upd words ((x1 * (nI 8)) + x2).toNatClampNeg x3) blank queue) := hD
  cases h
  exact sc_vret cf hr hlk hK hP hD hS d_S_setWord_12
set_option maxHeartbeats 4000000 in
set_option maxRecDepth 100000 in
theorem w_S_sharedBlocks_4 {p : Program} {l : Launch} {e : Env} {s : State} {m : MethodId} {args : Array Value} {below : List Frame} {meth : Method} {c : Code} {D : va_G} {cI cZ : ClassId} {A : Nat → Prop} (h_p0 h_p0_maps h_p0_tables h_p0_words h_p0_blank h_p0_queue : Nat) (F : Nat) (maps : (Nat → Int32)) (tables : (Nat → Int32)) (words : (Nat → Int32)) (blank : (Nat → Int32)) (queue : (Nat → Int32)) (r : Int32) (cx : cx_ok p s m args meth c b_S_sharedBlocks 4 o_S_sharedBlocks "OrderedVolume$Store" (some .int) D cI cZ A) : ∀ (n : Nat) (x1 : Int32) (x2 : Int32) (x3 : Int32), s_S_sharedBlocks_4 F tables n x1 x2 x3 = some r → wk_G p l e rm_S_sharedBlocks s m args below meth c (sc_Qi below args s D cI cZ A (w_S cI cZ h_p0 h_p0_maps h_p0_tables h_p0_words h_p0_blank h_p0_queue maps tables words blank queue) r) D A 4 4 [] [(0, .ref h_p0), (1, .int x1), (2, .int x2), (3, .int x3)] (w_S cI cZ h_p0 h_p0_maps h_p0_tables h_p0_words h_p0_blank h_p0_queue maps tables words blank queue) := by
  obtain ⟨cf, hr, hlk, hK, hN, hA⟩ := cx
  have hx := cf.1
  have hb := cf.2.1
  have hown := cf.2.2.2.1
  have ht : ∀ w ∈ wA, w.before args s = true := fun w h => cf.2.2.2.2 w (List.mem_cons_of_mem _ h)
  intro n
  induction n with
  | zero => intro x1 x2 x3 h; cases (show (none : Option (Int32)) = some _ from h)
  | succ n ih =>
    intro x1 x2 x3 h H locs ls hl hP hD hS
    unfold s_S_sharedBlocks_4 at h
    refine lv_iload_n hx hb d_S_sharedBlocks_4 rfl (lv_at hl 3 rfl) ?_
    refine lv_bipush (v := (nI 36)) hx hb d_S_sharedBlocks_5 (by decide) ?_
    refine lv_icmp_ge hx hb d_S_sharedBlocks_7 rfl (fun hc => ?_) (fun hc => ?_)
    · rw [if_pos hc] at h
      refine lv_iload_n hx hb d_S_sharedBlocks_36 rfl (lv_at hl 2 rfl) ?_
      cases h
      exact sc_iret cf hr hlk hK hP hD hS d_S_sharedBlocks_37
    · rw [if_neg hc] at h
      refine lv_iload_n hx hb d_S_sharedBlocks_10 rfl (lv_at hl 3 rfl) ?_
      obtain ⟨r11, h11, h⟩ := bd_some h
      refine wk_Ni (As := [.int x3]) (rest := []) (wc := []) (w1 := []) (wr := [(h_p0, .inr (0, [.ref h_p0_maps, .ref h_p0_tables, .ref h_p0_words, .ref h_p0_blank, .ref h_p0_queue])), (h_p0_maps, .inl (cI, 48, .inl maps)), (h_p0_tables, .inl (cI, 90, .inl tables)), (h_p0_words, .inl (cI, 288, .inl words)), (h_p0_blank, .inl (cZ, 36, .inl blank)), (h_p0_queue, .inl (cI, 18, .inl queue))]) (wz := (w_S cI cZ h_p0 h_p0_maps h_p0_tables h_p0_words h_p0_blank h_p0_queue maps tables words blank queue)) cf hK hN hA (c_V_isData l D cI cZ 0 x3 r11 h11) k_S_85 hN.2.2.2 ⟨rfl, rfl, by decide, by decide⟩ hl hP hD hS [] [0, 1, 2, 3, 4, 5] [0, 1, 2, 3, 4, 5] rfl rfl rfl (by decide) rfl rfl rfl rfl rfl (Nat.le_of_ble_eq_true rfl) rfl d_S_sharedBlocks_11 (fun H locs hP hD hS => ?_)
      refine lv_if_eq hx hb d_S_sharedBlocks_14 rfl (fun hc => ?_) (fun hc => ?_)
      · rw [if_pos hc] at h
        refine lv_iinc (k := 3) (v := (x3 + (nI 1))) (lv' := [(3, .int (x3 + (nI 1))), (0, .ref h_p0), (1, .int x1), (2, .int x2)]) hx hb d_S_sharedBlocks_30 hl rfl rfl (by decide) rfl (fun ls hl => ?_)
        refine lv_goto hx hb d_S_sharedBlocks_33 rfl ?_
        exact ih x1 x2 (x3 + (nI 1)) h H locs ls (lv_sub hl [1, 2, 3, 0] rfl) hP hD hS
      · rw [if_neg hc] at h
        refine lv_aload_n hx hb d_S_sharedBlocks_17 rfl (lv_at hl 0 rfl) ?_
        refine lv_iload_n hx hb d_S_sharedBlocks_18 rfl (lv_at hl 1 rfl) ?_
        refine lv_iload_n hx hb d_S_sharedBlocks_19 rfl (lv_at hl 3 rfl) ?_
        obtain ⟨r20, h20, h⟩ := bd_some h
        refine wk_Vi (As := [.int x1, .int x3]) (rest := []) (wc := (w_S cI cZ h_p0 h_p0_maps h_p0_tables h_p0_words h_p0_blank h_p0_queue maps tables words blank queue)) (w1 := (w_S cI cZ h_p0 h_p0_maps h_p0_tables h_p0_words h_p0_blank h_p0_queue maps tables words blank queue)) (wr := []) (wz := (w_S cI cZ h_p0 h_p0_maps h_p0_tables h_p0_words h_p0_blank h_p0_queue maps tables words blank queue)) cf hK hN hA (c_S_pointersTo l D cI cZ h_p0 h_p0_maps h_p0_tables h_p0_words h_p0_blank h_p0_queue F maps tables words blank queue x1 x3 r20 h20) k_S_88 ⟨rfl, rfl, by decide, by decide⟩ 0 rfl rfl rfl hl hP hD hS [0, 1, 2, 3, 4, 5] [] [0, 1, 2, 3, 4, 5] rfl rfl rfl (by decide) rfl rfl rfl rfl rfl (Nat.le_of_ble_eq_true rfl) rfl d_S_sharedBlocks_20 (fun H locs hP hD hS => ?_)
        refine lv_iconst (v := (nI 1)) hx hb d_S_sharedBlocks_23 (by decide) ?_
        refine lv_icmp_le hx hb d_S_sharedBlocks_24 rfl (fun hc => ?_) (fun hc => ?_)
        · rw [if_pos hc] at h
          refine lv_iinc (k := 3) (v := (x3 + (nI 1))) (lv' := [(3, .int (x3 + (nI 1))), (0, .ref h_p0), (1, .int x1), (2, .int x2)]) hx hb d_S_sharedBlocks_30 hl rfl rfl (by decide) rfl (fun ls hl => ?_)
          refine lv_goto hx hb d_S_sharedBlocks_33 rfl ?_
          exact ih x1 x2 (x3 + (nI 1)) h H locs ls (lv_sub hl [1, 2, 3, 0] rfl) hP hD hS
        · rw [if_neg hc] at h
          refine lv_iinc (k := 2) (v := (x2 + (nI 1))) (lv' := [(2, .int (x2 + (nI 1))), (0, .ref h_p0), (1, .int x1), (3, .int x3)]) hx hb d_S_sharedBlocks_27 hl rfl rfl (by decide) rfl (fun ls hl => ?_)
          refine lv_iinc (k := 3) (v := (x3 + (nI 1))) (lv' := [(3, .int (x3 + (nI 1))), (2, .int (x2 + (nI 1))), (0, .ref h_p0), (1, .int x1)]) hx hb d_S_sharedBlocks_30 hl rfl rfl (by decide) rfl (fun ls hl => ?_)
          refine lv_goto hx hb d_S_sharedBlocks_33 rfl ?_
          exact ih x1 (x2 + (nI 1)) (x3 + (nI 1)) h H locs ls (lv_sub hl [2, 3, 1, 0] rfl) hP hD hS
set_option maxHeartbeats 4000000 in
set_option maxRecDepth 100000 in
theorem c_S_sharedBlocks (l : Launch) (D : va_G) (cI cZ : ClassId) (h_p0 h_p0_maps h_p0_tables h_p0_words h_p0_blank h_p0_queue : Nat) (F : Nat) (maps : (Nat → Int32)) (tables : (Nat → Int32)) (words : (Nat → Int32)) (blank : (Nat → Int32)) (queue : (Nat → Int32)) (x1 : Int32) (r : Int32) (h : s_S_sharedBlocks F tables x1 = some r) : sc_i l y_S_sharedBlocks (o_S_sharedBlocks :: wA) rm_S_sharedBlocks D cI cZ [.ref h_p0, .int x1] (w_S cI cZ h_p0 h_p0_maps h_p0_tables h_p0_words h_p0_blank h_p0_queue maps tables words blank queue) (w_S cI cZ h_p0 h_p0_maps h_p0_tables h_p0_words h_p0_blank h_p0_queue maps tables words blank queue) r := by
  refine sc_i_of (cc := b_S_sharedBlocks) (maxL := 4) (ret := (some .int)) (by decide) rfl (Nat.le_of_ble_eq_true rfl) ?_
  intro p e s m below meth c A cf hr hlk hK hN hA H locs ls hl hP hD hS
  have hx := cf.1
  have hb := cf.2.1
  have hown := cf.2.2.2.1
  have ht : ∀ w ∈ wA, w.before _ s = true := fun w h => cf.2.2.2.2 w (List.mem_cons_of_mem _ h)
  unfold s_S_sharedBlocks at h
  have hl : lv_has ls 4 [(0, .ref h_p0), (1, .int x1)] := hl
  refine lv_iconst (v := (nI 0)) hx hb d_S_sharedBlocks_0 (by decide) ?_
  refine lv_istore_n (lv' := [(2, .int (nI 0)), (0, .ref h_p0), (1, .int x1)]) hx hb d_S_sharedBlocks_1 rfl hl (by decide) rfl (fun ls hl => ?_)
  refine lv_iconst (v := (nI 0)) hx hb d_S_sharedBlocks_2 (by decide) ?_
  refine lv_istore_n (lv' := [(3, .int (nI 0)), (2, .int (nI 0)), (0, .ref h_p0), (1, .int x1)]) hx hb d_S_sharedBlocks_3 rfl hl (by decide) rfl (fun ls hl => ?_)
  exact w_S_sharedBlocks_4 h_p0 h_p0_maps h_p0_tables h_p0_words h_p0_blank h_p0_queue F maps tables words blank queue r ⟨cf, hr, hlk, hK, hN, hA⟩ F x1 (nI 0) (nI 0) h H locs ls (lv_sub hl [2, 3, 1, 0] rfl) hP hD hS
set_option maxHeartbeats 4000000 in
set_option maxRecDepth 100000 in
theorem w_S_uselessBlocks_4 {p : Program} {l : Launch} {e : Env} {s : State} {m : MethodId} {args : Array Value} {below : List Frame} {meth : Method} {c : Code} {D : va_G} {cI cZ : ClassId} {A : Nat → Prop} (h_p0 h_p0_maps h_p0_tables h_p0_words h_p0_blank h_p0_queue : Nat) (F : Nat) (maps : (Nat → Int32)) (tables : (Nat → Int32)) (words : (Nat → Int32)) (blank : (Nat → Int32)) (queue : (Nat → Int32)) (r : Int32) (cx : cx_ok p s m args meth c b_S_uselessBlocks 4 o_S_uselessBlocks "OrderedVolume$Store" (some .int) D cI cZ A) : ∀ (n : Nat) (x1 : Int32) (x2 : Int32) (x3 : Int32), s_S_uselessBlocks_4 F maps tables n x1 x2 x3 = some r → wk_G p l e rm_S_uselessBlocks s m args below meth c (sc_Qi below args s D cI cZ A (w_S cI cZ h_p0 h_p0_maps h_p0_tables h_p0_words h_p0_blank h_p0_queue maps tables words blank queue) r) D A 4 4 [] [(0, .ref h_p0), (1, .int x1), (2, .int x2), (3, .int x3)] (w_S cI cZ h_p0 h_p0_maps h_p0_tables h_p0_words h_p0_blank h_p0_queue maps tables words blank queue) := by
  obtain ⟨cf, hr, hlk, hK, hN, hA⟩ := cx
  have hx := cf.1
  have hb := cf.2.1
  have hown := cf.2.2.2.1
  have ht : ∀ w ∈ wA, w.before args s = true := fun w h => cf.2.2.2.2 w (List.mem_cons_of_mem _ h)
  intro n
  induction n with
  | zero => intro x1 x2 x3 h; cases (show (none : Option (Int32)) = some _ from h)
  | succ n ih =>
    intro x1 x2 x3 h H locs ls hl hP hD hS
    unfold s_S_uselessBlocks_4 at h
    refine lv_iload_n hx hb d_S_uselessBlocks_4 rfl (lv_at hl 3 rfl) ?_
    refine lv_bipush (v := (nI 36)) hx hb d_S_uselessBlocks_5 (by decide) ?_
    refine lv_icmp_ge hx hb d_S_uselessBlocks_7 rfl (fun hc => ?_) (fun hc => ?_)
    · rw [if_pos hc] at h
      refine lv_iload_n hx hb d_S_uselessBlocks_43 rfl (lv_at hl 2 rfl) ?_
      cases h
      exact sc_iret cf hr hlk hK hP hD hS d_S_uselessBlocks_44
    · rw [if_neg hc] at h
      refine lv_iload_n hx hb d_S_uselessBlocks_10 rfl (lv_at hl 3 rfl) ?_
      obtain ⟨r11, h11, h⟩ := bd_some h
      refine wk_Ni (As := [.int x3]) (rest := []) (wc := []) (w1 := []) (wr := [(h_p0, .inr (0, [.ref h_p0_maps, .ref h_p0_tables, .ref h_p0_words, .ref h_p0_blank, .ref h_p0_queue])), (h_p0_maps, .inl (cI, 48, .inl maps)), (h_p0_tables, .inl (cI, 90, .inl tables)), (h_p0_words, .inl (cI, 288, .inl words)), (h_p0_blank, .inl (cZ, 36, .inl blank)), (h_p0_queue, .inl (cI, 18, .inl queue))]) (wz := (w_S cI cZ h_p0 h_p0_maps h_p0_tables h_p0_words h_p0_blank h_p0_queue maps tables words blank queue)) cf hK hN hA (c_V_isData l D cI cZ 0 x3 r11 h11) k_S_85 hN.2.2.2 ⟨rfl, rfl, by decide, by decide⟩ hl hP hD hS [] [0, 1, 2, 3, 4, 5] [0, 1, 2, 3, 4, 5] rfl rfl rfl (by decide) rfl rfl rfl rfl rfl (Nat.le_of_ble_eq_true rfl) rfl d_S_uselessBlocks_11 (fun H locs hP hD hS => ?_)
      refine lv_if_eq hx hb d_S_uselessBlocks_14 rfl (fun hc => ?_) (fun hc => ?_)
      · rw [if_pos hc] at h
        refine lv_iinc (k := 3) (v := (x3 + (nI 1))) (lv' := [(3, .int (x3 + (nI 1))), (0, .ref h_p0), (1, .int x1), (2, .int x2)]) hx hb d_S_uselessBlocks_37 hl rfl rfl (by decide) rfl (fun ls hl => ?_)
        refine lv_goto hx hb d_S_uselessBlocks_40 rfl ?_
        exact ih x1 x2 (x3 + (nI 1)) h H locs ls (lv_sub hl [1, 2, 3, 0] rfl) hP hD hS
      · rw [if_neg hc] at h
        refine lv_aload_n hx hb d_S_uselessBlocks_17 rfl (lv_at hl 0 rfl) ?_
        refine lv_iload_n hx hb d_S_uselessBlocks_18 rfl (lv_at hl 3 rfl) ?_
        obtain ⟨r19, h19, h⟩ := bd_some h
        refine wk_Vi (As := [.int x3]) (rest := []) (wc := (w_S cI cZ h_p0 h_p0_maps h_p0_tables h_p0_words h_p0_blank h_p0_queue maps tables words blank queue)) (w1 := (w_S cI cZ h_p0 h_p0_maps h_p0_tables h_p0_words h_p0_blank h_p0_queue maps tables words blank queue)) (wr := []) (wz := (w_S cI cZ h_p0 h_p0_maps h_p0_tables h_p0_words h_p0_blank h_p0_queue maps tables words blank queue)) cf hK hN hA (c_S_blockMark l D cI cZ h_p0 h_p0_maps h_p0_tables h_p0_words h_p0_blank h_p0_queue maps tables words blank queue x3 r19 h19) k_S_79 ⟨rfl, rfl, by decide, by decide⟩ 0 rfl rfl rfl hl hP hD hS [0, 1, 2, 3, 4, 5] [] [0, 1, 2, 3, 4, 5] rfl rfl rfl (by decide) rfl rfl rfl rfl rfl (Nat.le_of_ble_eq_true rfl) rfl d_S_uselessBlocks_19 (fun H locs hP hD hS => ?_)
        refine lv_if_eq hx hb d_S_uselessBlocks_22 rfl (fun hc => ?_) (fun hc => ?_)
        · rw [if_pos hc] at h
          refine lv_iinc (k := 3) (v := (x3 + (nI 1))) (lv' := [(3, .int (x3 + (nI 1))), (0, .ref h_p0), (1, .int x1), (2, .int x2)]) hx hb d_S_uselessBlocks_37 hl rfl rfl (by decide) rfl (fun ls hl => ?_)
          refine lv_goto hx hb d_S_uselessBlocks_40 rfl ?_
          exact ih x1 x2 (x3 + (nI 1)) h H locs ls (lv_sub hl [1, 2, 3, 0] rfl) hP hD hS
        · rw [if_neg hc] at h
          refine lv_aload_n hx hb d_S_uselessBlocks_25 rfl (lv_at hl 0 rfl) ?_
          refine lv_iload_n hx hb d_S_uselessBlocks_26 rfl (lv_at hl 1 rfl) ?_
          refine lv_iload_n hx hb d_S_uselessBlocks_27 rfl (lv_at hl 3 rfl) ?_
          obtain ⟨r28, h28, h⟩ := bd_some h
          refine wk_Vi (As := [.int x1, .int x3]) (rest := []) (wc := (w_S cI cZ h_p0 h_p0_maps h_p0_tables h_p0_words h_p0_blank h_p0_queue maps tables words blank queue)) (w1 := (w_S cI cZ h_p0 h_p0_maps h_p0_tables h_p0_words h_p0_blank h_p0_queue maps tables words blank queue)) (wr := []) (wz := (w_S cI cZ h_p0 h_p0_maps h_p0_tables h_p0_words h_p0_blank h_p0_queue maps tables words blank queue)) cf hK hN hA (c_S_pointersTo l D cI cZ h_p0 h_p0_maps h_p0_tables h_p0_words h_p0_blank h_p0_queue F maps tables words blank queue x1 x3 r28 h28) k_S_88 ⟨rfl, rfl, by decide, by decide⟩ 0 rfl rfl rfl hl hP hD hS [0, 1, 2, 3, 4, 5] [] [0, 1, 2, 3, 4, 5] rfl rfl rfl (by decide) rfl rfl rfl rfl rfl (Nat.le_of_ble_eq_true rfl) rfl d_S_uselessBlocks_28 (fun H locs hP hD hS => ?_)
          refine lv_if_ne hx hb d_S_uselessBlocks_31 rfl (fun hc => ?_) (fun hc => ?_)
          · rw [if_neg hc] at h
            refine lv_iinc (k := 3) (v := (x3 + (nI 1))) (lv' := [(3, .int (x3 + (nI 1))), (0, .ref h_p0), (1, .int x1), (2, .int x2)]) hx hb d_S_uselessBlocks_37 hl rfl rfl (by decide) rfl (fun ls hl => ?_)
            refine lv_goto hx hb d_S_uselessBlocks_40 rfl ?_
            exact ih x1 x2 (x3 + (nI 1)) h H locs ls (lv_sub hl [1, 2, 3, 0] rfl) hP hD hS
          · rw [if_pos hc] at h
            refine lv_iinc (k := 2) (v := (x2 + (nI 1))) (lv' := [(2, .int (x2 + (nI 1))), (0, .ref h_p0), (1, .int x1), (3, .int x3)]) hx hb d_S_uselessBlocks_34 hl rfl rfl (by decide) rfl (fun ls hl => ?_)
            refine lv_iinc (k := 3) (v := (x3 + (nI 1))) (lv' := [(3, .int (x3 + (nI 1))), (2, .int (x2 + (nI 1))), (0, .ref h_p0), (1, .int x1)]) hx hb d_S_uselessBlocks_37 hl rfl rfl (by decide) rfl (fun ls hl => ?_)
            refine lv_goto hx hb d_S_uselessBlocks_40 rfl ?_
            exact ih x1 (x2 + (nI 1)) (x3 + (nI 1)) h H locs ls (lv_sub hl [2, 3, 1, 0] rfl) hP hD hS
set_option maxHeartbeats 4000000 in
set_option maxRecDepth 100000 in
theorem c_S_uselessBlocks (l : Launch) (D : va_G) (cI cZ : ClassId) (h_p0 h_p0_maps h_p0_tables h_p0_words h_p0_blank h_p0_queue : Nat) (F : Nat) (maps : (Nat → Int32)) (tables : (Nat → Int32)) (words : (Nat → Int32)) (blank : (Nat → Int32)) (queue : (Nat → Int32)) (x1 : Int32) (r : Int32) (h : s_S_uselessBlocks F maps tables x1 = some r) : sc_i l y_S_uselessBlocks (o_S_uselessBlocks :: wA) rm_S_uselessBlocks D cI cZ [.ref h_p0, .int x1] (w_S cI cZ h_p0 h_p0_maps h_p0_tables h_p0_words h_p0_blank h_p0_queue maps tables words blank queue) (w_S cI cZ h_p0 h_p0_maps h_p0_tables h_p0_words h_p0_blank h_p0_queue maps tables words blank queue) r := by
  refine sc_i_of (cc := b_S_uselessBlocks) (maxL := 4) (ret := (some .int)) (by decide) rfl (Nat.le_of_ble_eq_true rfl) ?_
  intro p e s m below meth c A cf hr hlk hK hN hA H locs ls hl hP hD hS
  have hx := cf.1
  have hb := cf.2.1
  have hown := cf.2.2.2.1
  have ht : ∀ w ∈ wA, w.before _ s = true := fun w h => cf.2.2.2.2 w (List.mem_cons_of_mem _ h)
  unfold s_S_uselessBlocks at h
  have hl : lv_has ls 4 [(0, .ref h_p0), (1, .int x1)] := hl
  refine lv_iconst (v := (nI 0)) hx hb d_S_uselessBlocks_0 (by decide) ?_
  refine lv_istore_n (lv' := [(2, .int (nI 0)), (0, .ref h_p0), (1, .int x1)]) hx hb d_S_uselessBlocks_1 rfl hl (by decide) rfl (fun ls hl => ?_)
  refine lv_iconst (v := (nI 0)) hx hb d_S_uselessBlocks_2 (by decide) ?_
  refine lv_istore_n (lv' := [(3, .int (nI 0)), (2, .int (nI 0)), (0, .ref h_p0), (1, .int x1)]) hx hb d_S_uselessBlocks_3 rfl hl (by decide) rfl (fun ls hl => ?_)
  exact w_S_uselessBlocks_4 h_p0 h_p0_maps h_p0_tables h_p0_words h_p0_blank h_p0_queue F maps tables words blank queue r ⟨cf, hr, hlk, hK, hN, hA⟩ F x1 (nI 0) (nI 0) h H locs ls (lv_sub hl [2, 3, 1, 0] rfl) hP hD hS
set_option maxHeartbeats 4000000 in
set_option maxRecDepth 100000 in
theorem w_S_uselessInodes_34 {p : Program} {l : Launch} {e : Env} {s : State} {m : MethodId} {args : Array Value} {below : List Frame} {meth : Method} {c : Code} {D : va_G} {cI cZ : ClassId} {A : Nat → Prop} (h_p0 h_p0_maps h_p0_tables h_p0_words h_p0_blank h_p0_queue : Nat) (F : Nat) (maps : (Nat → Int32)) (tables : (Nat → Int32)) (words : (Nat → Int32)) (blank : (Nat → Int32)) (queue : (Nat → Int32)) (r : Int32) (k4 : Int32 → Int32 → Int32 → Option (Int32)) (cx : cx_ok p s m args meth c b_S_uselessInodes 4 o_S_uselessInodes "OrderedVolume$Store" (some .int) D cI cZ A) (h4 : (∀ (x1 : Int32) (x2 : Int32) (x3 : Int32), k4 x1 x2 x3 = some r → wk_G p l e rm_S_uselessInodes s m args below meth c (sc_Qi below args s D cI cZ A (w_S cI cZ h_p0 h_p0_maps h_p0_tables h_p0_words h_p0_blank h_p0_queue maps tables words blank queue) r) D A 4 4 [] [(0, .ref h_p0), (1, .int x1), (2, .int x2), (3, .int x3)] (w_S cI cZ h_p0 h_p0_maps h_p0_tables h_p0_words h_p0_blank h_p0_queue maps tables words blank queue))) : ∀ (x1 : Int32) (x2 : Int32) (x3 : Int32), s_S_uselessInodes_34 F maps tables k4 x1 x2 x3 = some r → wk_G p l e rm_S_uselessInodes s m args below meth c (sc_Qi below args s D cI cZ A (w_S cI cZ h_p0 h_p0_maps h_p0_tables h_p0_words h_p0_blank h_p0_queue maps tables words blank queue) r) D A 4 34 [] [(0, .ref h_p0), (1, .int x1), (2, .int x2), (3, .int x3)] (w_S cI cZ h_p0 h_p0_maps h_p0_tables h_p0_words h_p0_blank h_p0_queue maps tables words blank queue) := by
  obtain ⟨cf, hr, hlk, hK, hN, hA⟩ := cx
  have hx := cf.1
  have hb := cf.2.1
  have hown := cf.2.2.2.1
  have ht : ∀ w ∈ wA, w.before args s = true := fun w h => cf.2.2.2.2 w (List.mem_cons_of_mem _ h)
  intro x1 x2 x3 h H locs ls hl hP hD hS
  unfold s_S_uselessInodes_34 at h
  refine lv_iinc (k := 2) (v := (x2 + (nI 1))) (lv' := [(2, .int (x2 + (nI 1))), (0, .ref h_p0), (1, .int x1), (3, .int x3)]) hx hb d_S_uselessInodes_34 hl rfl rfl (by decide) rfl (fun ls hl => ?_)
  refine lv_iinc (k := 3) (v := (x3 + (nI 1))) (lv' := [(3, .int (x3 + (nI 1))), (2, .int (x2 + (nI 1))), (0, .ref h_p0), (1, .int x1)]) hx hb d_S_uselessInodes_37 hl rfl rfl (by decide) rfl (fun ls hl => ?_)
  refine lv_goto hx hb d_S_uselessInodes_40 rfl ?_
  exact h4 x1 (x2 + (nI 1)) (x3 + (nI 1)) h H locs ls (lv_sub hl [2, 3, 1, 0] rfl) hP hD hS
set_option maxHeartbeats 4000000 in
set_option maxRecDepth 100000 in
theorem w_S_uselessInodes_4 {p : Program} {l : Launch} {e : Env} {s : State} {m : MethodId} {args : Array Value} {below : List Frame} {meth : Method} {c : Code} {D : va_G} {cI cZ : ClassId} {A : Nat → Prop} (h_p0 h_p0_maps h_p0_tables h_p0_words h_p0_blank h_p0_queue : Nat) (F : Nat) (maps : (Nat → Int32)) (tables : (Nat → Int32)) (words : (Nat → Int32)) (blank : (Nat → Int32)) (queue : (Nat → Int32)) (r : Int32) (cx : cx_ok p s m args meth c b_S_uselessInodes 4 o_S_uselessInodes "OrderedVolume$Store" (some .int) D cI cZ A) : ∀ (n : Nat) (x1 : Int32) (x2 : Int32) (x3 : Int32), s_S_uselessInodes_4 F maps tables n x1 x2 x3 = some r → wk_G p l e rm_S_uselessInodes s m args below meth c (sc_Qi below args s D cI cZ A (w_S cI cZ h_p0 h_p0_maps h_p0_tables h_p0_words h_p0_blank h_p0_queue maps tables words blank queue) r) D A 4 4 [] [(0, .ref h_p0), (1, .int x1), (2, .int x2), (3, .int x3)] (w_S cI cZ h_p0 h_p0_maps h_p0_tables h_p0_words h_p0_blank h_p0_queue maps tables words blank queue) := by
  obtain ⟨cf, hr, hlk, hK, hN, hA⟩ := cx
  have hx := cf.1
  have hb := cf.2.1
  have hown := cf.2.2.2.1
  have ht : ∀ w ∈ wA, w.before args s = true := fun w h => cf.2.2.2.2 w (List.mem_cons_of_mem _ h)
  intro n
  induction n with
  | zero => intro x1 x2 x3 h; cases (show (none : Option (Int32)) = some _ from h)
  | succ n ih =>
    intro x1 x2 x3 h H locs ls hl hP hD hS
    unfold s_S_uselessInodes_4 at h
    refine lv_iload_n hx hb d_S_uselessInodes_4 rfl (lv_at hl 3 rfl) ?_
    refine lv_bipush (v := (nI 18)) hx hb d_S_uselessInodes_5 (by decide) ?_
    refine lv_icmp_ge hx hb d_S_uselessInodes_7 rfl (fun hc => ?_) (fun hc => ?_)
    · rw [if_pos hc] at h
      refine lv_iload_n hx hb d_S_uselessInodes_43 rfl (lv_at hl 2 rfl) ?_
      cases h
      exact sc_iret cf hr hlk hK hP hD hS d_S_uselessInodes_44
    · rw [if_neg hc] at h
      refine lv_iload_n hx hb d_S_uselessInodes_10 rfl (lv_at hl 1 rfl) ?_
      refine lv_iload_n hx hb d_S_uselessInodes_11 rfl (lv_at hl 3 rfl) ?_
      obtain ⟨r12, h12, h⟩ := bd_some h
      refine wk_Ni (As := [.int x1, .int x3]) (rest := []) (wc := []) (w1 := []) (wr := [(h_p0, .inr (0, [.ref h_p0_maps, .ref h_p0_tables, .ref h_p0_words, .ref h_p0_blank, .ref h_p0_queue])), (h_p0_maps, .inl (cI, 48, .inl maps)), (h_p0_tables, .inl (cI, 90, .inl tables)), (h_p0_words, .inl (cI, 288, .inl words)), (h_p0_blank, .inl (cZ, 36, .inl blank)), (h_p0_queue, .inl (cI, 18, .inl queue))]) (wz := (w_S cI cZ h_p0 h_p0_maps h_p0_tables h_p0_words h_p0_blank h_p0_queue maps tables words blank queue)) cf hK hN hA (c_V_has l D cI cZ 0 x1 x3 r12 h12) k_S_66 hN.2.2.1 ⟨rfl, rfl, by decide, by decide⟩ hl hP hD hS [] [0, 1, 2, 3, 4, 5] [0, 1, 2, 3, 4, 5] rfl rfl rfl (by decide) rfl rfl rfl rfl rfl (Nat.le_of_ble_eq_true rfl) rfl d_S_uselessInodes_12 (fun H locs hP hD hS => ?_)
      refine lv_if_ne hx hb d_S_uselessInodes_15 rfl (fun hc => ?_) (fun hc => ?_)
      · rw [if_neg hc] at h
        refine lv_iinc (k := 3) (v := (x3 + (nI 1))) (lv' := [(3, .int (x3 + (nI 1))), (0, .ref h_p0), (1, .int x1), (2, .int x2)]) hx hb d_S_uselessInodes_37 hl rfl rfl (by decide) rfl (fun ls hl => ?_)
        refine lv_goto hx hb d_S_uselessInodes_40 rfl ?_
        exact ih x1 x2 (x3 + (nI 1)) h H locs ls (lv_sub hl [1, 2, 3, 0] rfl) hP hD hS
      · rw [if_pos hc] at h
        refine lv_aload_n hx hb d_S_uselessInodes_18 rfl (lv_at hl 0 rfl) ?_
        refine lv_iload_n hx hb d_S_uselessInodes_19 rfl (lv_at hl 3 rfl) ?_
        obtain ⟨r20, h20, h⟩ := bd_some h
        refine wk_Vi (As := [.int x3]) (rest := []) (wc := (w_S cI cZ h_p0 h_p0_maps h_p0_tables h_p0_words h_p0_blank h_p0_queue maps tables words blank queue)) (w1 := (w_S cI cZ h_p0 h_p0_maps h_p0_tables h_p0_words h_p0_blank h_p0_queue maps tables words blank queue)) (wr := []) (wz := (w_S cI cZ h_p0 h_p0_maps h_p0_tables h_p0_words h_p0_blank h_p0_queue maps tables words blank queue)) cf hK hN hA (c_S_kind l D cI cZ h_p0 h_p0_maps h_p0_tables h_p0_words h_p0_blank h_p0_queue maps tables words blank queue x3 r20 h20) k_S_73 ⟨rfl, rfl, by decide, by decide⟩ 0 rfl rfl rfl hl hP hD hS [0, 1, 2, 3, 4, 5] [] [0, 1, 2, 3, 4, 5] rfl rfl rfl (by decide) rfl rfl rfl rfl rfl (Nat.le_of_ble_eq_true rfl) rfl d_S_uselessInodes_20 (fun H locs hP hD hS => ?_)
        refine lv_if_ne hx hb d_S_uselessInodes_23 rfl (fun hc => ?_) (fun hc => ?_)
        · rw [if_neg hc] at h
          exact w_S_uselessInodes_34 h_p0 h_p0_maps h_p0_tables h_p0_words h_p0_blank h_p0_queue F maps tables words blank queue r _ ⟨cf, hr, hlk, hK, hN, hA⟩ ih x1 x2 x3 h H locs ls (lv_sub hl [0, 1, 2, 3] rfl) hP hD hS
        · rw [if_pos hc] at h
          refine lv_aload_n hx hb d_S_uselessInodes_26 rfl (lv_at hl 0 rfl) ?_
          refine lv_iload_n hx hb d_S_uselessInodes_27 rfl (lv_at hl 3 rfl) ?_
          obtain ⟨r28, h28, h⟩ := bd_some h
          refine wk_Vi (As := [.int x3]) (rest := []) (wc := (w_S cI cZ h_p0 h_p0_maps h_p0_tables h_p0_words h_p0_blank h_p0_queue maps tables words blank queue)) (w1 := (w_S cI cZ h_p0 h_p0_maps h_p0_tables h_p0_words h_p0_blank h_p0_queue maps tables words blank queue)) (wr := []) (wz := (w_S cI cZ h_p0 h_p0_maps h_p0_tables h_p0_words h_p0_blank h_p0_queue maps tables words blank queue)) cf hK hN hA (c_S_inodeMark l D cI cZ h_p0 h_p0_maps h_p0_tables h_p0_words h_p0_blank h_p0_queue maps tables words blank queue x3 r28 h28) k_S_70 ⟨rfl, rfl, by decide, by decide⟩ 0 rfl rfl rfl hl hP hD hS [0, 1, 2, 3, 4, 5] [] [0, 1, 2, 3, 4, 5] rfl rfl rfl (by decide) rfl rfl rfl rfl rfl (Nat.le_of_ble_eq_true rfl) rfl d_S_uselessInodes_28 (fun H locs hP hD hS => ?_)
          refine lv_if_eq hx hb d_S_uselessInodes_31 rfl (fun hc => ?_) (fun hc => ?_)
          · rw [if_pos hc] at h
            refine lv_iinc (k := 3) (v := (x3 + (nI 1))) (lv' := [(3, .int (x3 + (nI 1))), (0, .ref h_p0), (1, .int x1), (2, .int x2)]) hx hb d_S_uselessInodes_37 hl rfl rfl (by decide) rfl (fun ls hl => ?_)
            refine lv_goto hx hb d_S_uselessInodes_40 rfl ?_
            exact ih x1 x2 (x3 + (nI 1)) h H locs ls (lv_sub hl [1, 2, 3, 0] rfl) hP hD hS
          · rw [if_neg hc] at h
            exact w_S_uselessInodes_34 h_p0 h_p0_maps h_p0_tables h_p0_words h_p0_blank h_p0_queue F maps tables words blank queue r _ ⟨cf, hr, hlk, hK, hN, hA⟩ ih x1 x2 x3 h H locs ls (lv_sub hl [0, 1, 2, 3] rfl) hP hD hS
set_option maxHeartbeats 4000000 in
set_option maxRecDepth 100000 in
theorem c_S_uselessInodes (l : Launch) (D : va_G) (cI cZ : ClassId) (h_p0 h_p0_maps h_p0_tables h_p0_words h_p0_blank h_p0_queue : Nat) (F : Nat) (maps : (Nat → Int32)) (tables : (Nat → Int32)) (words : (Nat → Int32)) (blank : (Nat → Int32)) (queue : (Nat → Int32)) (x1 : Int32) (r : Int32) (h : s_S_uselessInodes F maps tables x1 = some r) : sc_i l y_S_uselessInodes (o_S_uselessInodes :: wA) rm_S_uselessInodes D cI cZ [.ref h_p0, .int x1] (w_S cI cZ h_p0 h_p0_maps h_p0_tables h_p0_words h_p0_blank h_p0_queue maps tables words blank queue) (w_S cI cZ h_p0 h_p0_maps h_p0_tables h_p0_words h_p0_blank h_p0_queue maps tables words blank queue) r := by
  refine sc_i_of (cc := b_S_uselessInodes) (maxL := 4) (ret := (some .int)) (by decide) rfl (Nat.le_of_ble_eq_true rfl) ?_
  intro p e s m below meth c A cf hr hlk hK hN hA H locs ls hl hP hD hS
  have hx := cf.1
  have hb := cf.2.1
  have hown := cf.2.2.2.1
  have ht : ∀ w ∈ wA, w.before _ s = true := fun w h => cf.2.2.2.2 w (List.mem_cons_of_mem _ h)
  unfold s_S_uselessInodes at h
  have hl : lv_has ls 4 [(0, .ref h_p0), (1, .int x1)] := hl
  refine lv_iconst (v := (nI 0)) hx hb d_S_uselessInodes_0 (by decide) ?_
  refine lv_istore_n (lv' := [(2, .int (nI 0)), (0, .ref h_p0), (1, .int x1)]) hx hb d_S_uselessInodes_1 rfl hl (by decide) rfl (fun ls hl => ?_)
  refine lv_iconst (v := (nI 0)) hx hb d_S_uselessInodes_2 (by decide) ?_
  refine lv_istore_n (lv' := [(3, .int (nI 0)), (2, .int (nI 0)), (0, .ref h_p0), (1, .int x1)]) hx hb d_S_uselessInodes_3 rfl hl (by decide) rfl (fun ls hl => ?_)
  exact w_S_uselessInodes_4 h_p0 h_p0_maps h_p0_tables h_p0_words h_p0_blank h_p0_queue F maps tables words blank queue r ⟨cf, hr, hlk, hK, hN, hA⟩ F x1 (nI 0) (nI 0) h H locs ls (lv_sub hl [2, 3, 1, 0] rfl) hP hD hS
set_option maxHeartbeats 4000000 in
set_option maxRecDepth 100000 in
theorem w_S_wipeInode_8 {p : Program} {l : Launch} {e : Env} {s : State} {m : MethodId} {args : Array Value} {below : List Frame} {meth : Method} {c : Code} {D : va_G} {cI cZ : ClassId} {A : Nat → Prop} (h_p0 h_p0_maps h_p0_tables h_p0_words h_p0_blank h_p0_queue : Nat) (F : Nat) (words : (Nat → Int32)) (blank : (Nat → Int32)) (queue : (Nat → Int32)) (maps' : (Nat → Int32)) (tables' : (Nat → Int32)) (cx : cx_ok p s m args meth c b_S_wipeInode 3 o_S_wipeInode "OrderedVolume$Store" none D cI cZ A) : ∀ (n : Nat) (x1 : Int32) (x2 : Int32) (maps : (Nat → Int32)) (tables : (Nat → Int32)), s_S_wipeInode_8 F n x1 x2 maps tables = some (maps', tables') → wk_G p l e rm_S_wipeInode s m args below meth c (sc_Qv below args s D cI cZ A (w_S cI cZ h_p0 h_p0_maps h_p0_tables h_p0_words h_p0_blank h_p0_queue (maps') (tables') words blank queue)) D A 3 8 [] [(0, .ref h_p0), (1, .int x1), (2, .int x2)] (w_S cI cZ h_p0 h_p0_maps h_p0_tables h_p0_words h_p0_blank h_p0_queue maps tables words blank queue) := by
  obtain ⟨cf, hr, hlk, hK, hN, hA⟩ := cx
  have hx := cf.1
  have hb := cf.2.1
  have hown := cf.2.2.2.1
  have ht : ∀ w ∈ wA, w.before args s = true := fun w h => cf.2.2.2.2 w (List.mem_cons_of_mem _ h)
  intro n
  induction n with
  | zero => intro x1 x2 maps tables h; cases (show (none : Option ((Nat → Int32) × (Nat → Int32))) = some _ from h)
  | succ n ih =>
    intro x1 x2 maps tables h H locs ls hl hP hD hS
    unfold s_S_wipeInode_8 at h
    refine lv_iload_n hx hb d_S_wipeInode_8 rfl (lv_at hl 2 rfl) ?_
    refine lv_iconst (v := (nI 5)) hx hb d_S_wipeInode_9 (by decide) ?_
    refine lv_icmp_ge hx hb d_S_wipeInode_10 rfl (fun hc => ?_) (fun hc => ?_)
    · rw [if_pos hc] at h
      cases h
      exact sc_vret cf hr hlk hK hP hD hS d_S_wipeInode_30
    · rw [if_neg hc] at h
      refine lv_aload_n hx hb d_S_wipeInode_13 rfl (lv_at hl 0 rfl) ?_
      refine va_get (D := D) (ci := 0) (v := .ref h_p0_tables) (C := R_S) (T := F_S) (N := 5) hx hb ht in_S hown hK hP 0 rfl rfl 1 (by decide) (ht _ f_S_15) (fun _ h9 => h9) rfl d_S_wipeInode_14 ?_
      refine lv_iload_n hx hb d_S_wipeInode_17 rfl (lv_at hl 1 rfl) ?_
      refine lv_iconst (v := (nI 5)) hx hb d_S_wipeInode_18 (by decide) ?_
      refine lv_imul hx hb d_S_wipeInode_19 ?_
      refine lv_iload_n hx hb d_S_wipeInode_20 rfl (lv_at hl 2 rfl) ?_
      refine lv_iadd hx hb d_S_wipeInode_21 ?_
      refine lv_iconst (v := (nI 0)) hx hb d_S_wipeInode_22 (by decide) ?_
      obtain ⟨hin, h⟩ := ga_some h
      refine va_iast hx hb hK hP hD hS 2 0 rfl rfl hin d_S_wipeInode_23 (fun H locs hP hD hS => ?_)
      have hP : va_P D clA (w_S cI cZ h_p0 h_p0_maps h_p0_tables h_p0_words h_p0_blank h_p0_queue maps (upd tables ((x1 * (nI 5)) + x2).toNatClampNeg (nI 0)) words blank queue) H := hP
      have hD : va_D A (w_S cI cZ h_p0 h_p0_maps h_p0_tables h_p0_words h_p0_blank h_p0_queue maps (upd tables ((x1 * (nI 5)) + x2).toNatClampNeg (nI 0)) words blank queue) := hD
      refine lv_iinc (k := 2) (v := (x2 + (nI 1))) (lv' := [(2, .int (x2 + (nI 1))), (0, .ref h_p0), (1, .int x1)]) hx hb d_S_wipeInode_24 hl rfl rfl (by decide) rfl (fun ls hl => ?_)
      refine lv_goto hx hb d_S_wipeInode_27 rfl ?_
      exact ih x1 (x2 + (nI 1)) maps (upd tables ((x1 * (nI 5)) + x2).toNatClampNeg (nI 0)) h H locs ls (lv_sub hl [1, 2, 0] rfl) hP hD hS
set_option maxHeartbeats 4000000 in
set_option maxRecDepth 100000 in
theorem c_S_wipeInode (l : Launch) (D : va_G) (cI cZ : ClassId) (h_p0 h_p0_maps h_p0_tables h_p0_words h_p0_blank h_p0_queue : Nat) (F : Nat) (maps : (Nat → Int32)) (tables : (Nat → Int32)) (words : (Nat → Int32)) (blank : (Nat → Int32)) (queue : (Nat → Int32)) (maps' : (Nat → Int32)) (tables' : (Nat → Int32)) (x1 : Int32) (h : s_S_wipeInode F x1 maps tables = some (maps', tables')) : sc_v l y_S_wipeInode (o_S_wipeInode :: wA) rm_S_wipeInode D cI cZ [.ref h_p0, .int x1] (w_S cI cZ h_p0 h_p0_maps h_p0_tables h_p0_words h_p0_blank h_p0_queue maps tables words blank queue) (w_S cI cZ h_p0 h_p0_maps h_p0_tables h_p0_words h_p0_blank h_p0_queue (maps') (tables') words blank queue) := by
  refine sc_v_of (cc := b_S_wipeInode) (maxL := 3) (ret := none) (by decide) rfl (Nat.le_of_ble_eq_true rfl) ?_
  intro p e s m below meth c A cf hr hlk hK hN hA H locs ls hl hP hD hS
  have hx := cf.1
  have hb := cf.2.1
  have hown := cf.2.2.2.1
  have ht : ∀ w ∈ wA, w.before _ s = true := fun w h => cf.2.2.2.2 w (List.mem_cons_of_mem _ h)
  unfold s_S_wipeInode at h
  have hl : lv_has ls 3 [(0, .ref h_p0), (1, .int x1)] := hl
  refine lv_aload_n hx hb d_S_wipeInode_0 rfl (lv_at hl 0 rfl) ?_
  refine lv_iload_n hx hb d_S_wipeInode_1 rfl (lv_at hl 1 rfl) ?_
  refine lv_iconst (v := (nI 0)) hx hb d_S_wipeInode_2 (by decide) ?_
  obtain ⟨maps_3, h3, h⟩ := bd_some h
  refine wk_Vv (As := [.int x1, .int (nI 0)]) (rest := []) (wc := (w_S cI cZ h_p0 h_p0_maps h_p0_tables h_p0_words h_p0_blank h_p0_queue maps tables words blank queue)) (w1 := (w_S cI cZ h_p0 h_p0_maps h_p0_tables h_p0_words h_p0_blank h_p0_queue maps_3 tables words blank queue)) (wr := []) (wz := (w_S cI cZ h_p0 h_p0_maps h_p0_tables h_p0_words h_p0_blank h_p0_queue maps_3 tables words blank queue)) cf hK hN hA (c_S_setInodeMark l D cI cZ h_p0 h_p0_maps h_p0_tables h_p0_words h_p0_blank h_p0_queue maps tables words blank queue maps_3 x1 (nI 0) h3) k_S_28 ⟨rfl, rfl, by decide, by decide⟩ 0 rfl rfl rfl hl hP hD hS [0, 1, 2, 3, 4, 5] [] [0, 1, 2, 3, 4, 5] rfl rfl rfl (by decide) rfl rfl rfl rfl rfl (Nat.le_of_ble_eq_true rfl) rfl d_S_wipeInode_3 (fun H locs hP hD hS => ?_)
  refine lv_iconst (v := (nI 0)) hx hb d_S_wipeInode_6 (by decide) ?_
  refine lv_istore_n (lv' := [(2, .int (nI 0)), (0, .ref h_p0), (1, .int x1)]) hx hb d_S_wipeInode_7 rfl hl (by decide) rfl (fun ls hl => ?_)
  exact w_S_wipeInode_8 h_p0 h_p0_maps h_p0_tables h_p0_words h_p0_blank h_p0_queue F words blank queue maps' tables' ⟨cf, hr, hlk, hK, hN, hA⟩ F x1 (nI 0) maps_3 tables h H locs ls (lv_sub hl [1, 2, 0] rfl) hP hD hS
set_option maxHeartbeats 4000000 in
set_option maxRecDepth 100000 in
theorem c_S_word (l : Launch) (D : va_G) (cI cZ : ClassId) (h_p0 h_p0_maps h_p0_tables h_p0_words h_p0_blank h_p0_queue : Nat) (maps : (Nat → Int32)) (tables : (Nat → Int32)) (words : (Nat → Int32)) (blank : (Nat → Int32)) (queue : (Nat → Int32)) (x1 : Int32) (x2 : Int32) (r : Int32) (h : s_S_word words blank x1 x2 = some r) : sc_i l y_S_word (o_S_word :: wA) rm_S_word D cI cZ [.ref h_p0, .int x1, .int x2] (w_S cI cZ h_p0 h_p0_maps h_p0_tables h_p0_words h_p0_blank h_p0_queue maps tables words blank queue) (w_S cI cZ h_p0 h_p0_maps h_p0_tables h_p0_words h_p0_blank h_p0_queue maps tables words blank queue) r := by
  refine sc_i_of (cc := b_S_word) (maxL := 3) (ret := (some .int)) (by decide) rfl (Nat.le_of_ble_eq_true rfl) ?_
  intro p e s m below meth c A cf hr hlk hK hN hA H locs ls hl hP hD hS
  have hx := cf.1
  have hb := cf.2.1
  have hown := cf.2.2.2.1
  have ht : ∀ w ∈ wA, w.before _ s = true := fun w h => cf.2.2.2.2 w (List.mem_cons_of_mem _ h)
  unfold s_S_word at h
  have hl : lv_has ls 3 [(0, .ref h_p0), (1, .int x1), (2, .int x2)] := hl
  refine lv_aload_n hx hb d_S_word_0 rfl (lv_at hl 0 rfl) ?_
  refine va_get (D := D) (ci := 0) (v := .ref h_p0_blank) (C := R_S) (T := F_S) (N := 5) hx hb ht in_S hown hK hP 0 rfl rfl 3 (by decide) (ht _ f_S_21) (fun _ h9 => h9) rfl d_S_word_1 ?_
  refine lv_iload_n hx hb d_S_word_4 rfl (lv_at hl 1 rfl) ?_
  obtain ⟨hin, h⟩ := gr_some h
  refine va_zald hx hb hK hP 4 1 rfl rfl hin d_S_word_5 ?_
  generalize blank x1.toNatClampNeg = v5 at h ⊢
  refine lv_if_eq hx hb d_S_word_6 rfl (fun hc => ?_) (fun hc => ?_)
  · rw [if_pos hc] at h
    refine lv_aload_n hx hb d_S_word_13 rfl (lv_at hl 0 rfl) ?_
    refine va_get (D := D) (ci := 0) (v := .ref h_p0_words) (C := R_S) (T := F_S) (N := 5) hx hb ht in_S hown hK hP 0 rfl rfl 2 (by decide) (ht _ f_S_18) (fun _ h9 => h9) rfl d_S_word_14 ?_
    refine lv_iload_n hx hb d_S_word_17 rfl (lv_at hl 1 rfl) ?_
    refine lv_bipush (v := (nI 8)) hx hb d_S_word_18 (by decide) ?_
    refine lv_imul hx hb d_S_word_20 ?_
    refine lv_iload_n hx hb d_S_word_21 rfl (lv_at hl 2 rfl) ?_
    refine lv_iadd hx hb d_S_word_22 ?_
    obtain ⟨hin, h⟩ := gr_some h
    refine va_iald hx hb hK hP 3 0 rfl rfl hin d_S_word_23 ?_
    generalize words ((x1 * (nI 8)) + x2).toNatClampNeg = v23 at h ⊢
    cases h
    exact sc_iret cf hr hlk hK hP hD hS d_S_word_24
  · rw [if_neg hc] at h
    refine lv_iconst (v := (nI 0)) hx hb d_S_word_9 (by decide) ?_
    refine lv_goto hx hb d_S_word_10 rfl ?_
    cases h
    exact sc_iret cf hr hlk hK hP hD hS d_S_word_24
set_option maxHeartbeats 4000000 in
set_option maxRecDepth 100000 in
theorem w_S_wrongLinks_5 {p : Program} {l : Launch} {e : Env} {s : State} {m : MethodId} {args : Array Value} {below : List Frame} {meth : Method} {c : Code} {D : va_G} {cI cZ : ClassId} {A : Nat → Prop} (h_p0 h_p0_maps h_p0_tables h_p0_words h_p0_blank h_p0_queue : Nat) (F : Nat) (maps : (Nat → Int32)) (tables : (Nat → Int32)) (words : (Nat → Int32)) (blank : (Nat → Int32)) (queue : (Nat → Int32)) (r : Int32) (cx : cx_ok p s m args meth c b_S_wrongLinks 5 o_S_wrongLinks "OrderedVolume$Store" (some .int) D cI cZ A) : ∀ (n : Nat) (x1 : Int32) (x2 : Int32) (x3 : Int32) (x4 : Int32), s_S_wrongLinks_5 F tables words blank n x1 x2 x3 x4 = some r → wk_G p l e rm_S_wrongLinks s m args below meth c (sc_Qi below args s D cI cZ A (w_S cI cZ h_p0 h_p0_maps h_p0_tables h_p0_words h_p0_blank h_p0_queue maps tables words blank queue) r) D A 5 5 [] [(0, .ref h_p0), (1, .int x1), (2, .int x2), (3, .int x3), (4, .int x4)] (w_S cI cZ h_p0 h_p0_maps h_p0_tables h_p0_words h_p0_blank h_p0_queue maps tables words blank queue) := by
  obtain ⟨cf, hr, hlk, hK, hN, hA⟩ := cx
  have hx := cf.1
  have hb := cf.2.1
  have hown := cf.2.2.2.1
  have ht : ∀ w ∈ wA, w.before args s = true := fun w h => cf.2.2.2.2 w (List.mem_cons_of_mem _ h)
  intro n
  induction n with
  | zero => intro x1 x2 x3 x4 h; cases (show (none : Option (Int32)) = some _ from h)
  | succ n ih =>
    intro x1 x2 x3 x4 h H locs ls hl hP hD hS
    unfold s_S_wrongLinks_5 at h
    refine lv_iload hx hb d_S_wrongLinks_5 (lv_at hl 4 rfl) ?_
    refine lv_bipush (v := (nI 18)) hx hb d_S_wrongLinks_7 (by decide) ?_
    refine lv_icmp_ge hx hb d_S_wrongLinks_9 rfl (fun hc => ?_) (fun hc => ?_)
    · rw [if_pos hc] at h
      refine lv_iload_n hx hb d_S_wrongLinks_49 rfl (lv_at hl 3 rfl) ?_
      cases h
      exact sc_iret cf hr hlk hK hP hD hS d_S_wrongLinks_50
    · rw [if_neg hc] at h
      refine lv_iload_n hx hb d_S_wrongLinks_12 rfl (lv_at hl 1 rfl) ?_
      refine lv_iload hx hb d_S_wrongLinks_13 (lv_at hl 4 rfl) ?_
      obtain ⟨r15, h15, h⟩ := bd_some h
      refine wk_Ni (As := [.int x1, .int x4]) (rest := []) (wc := []) (w1 := []) (wr := [(h_p0, .inr (0, [.ref h_p0_maps, .ref h_p0_tables, .ref h_p0_words, .ref h_p0_blank, .ref h_p0_queue])), (h_p0_maps, .inl (cI, 48, .inl maps)), (h_p0_tables, .inl (cI, 90, .inl tables)), (h_p0_words, .inl (cI, 288, .inl words)), (h_p0_blank, .inl (cZ, 36, .inl blank)), (h_p0_queue, .inl (cI, 18, .inl queue))]) (wz := (w_S cI cZ h_p0 h_p0_maps h_p0_tables h_p0_words h_p0_blank h_p0_queue maps tables words blank queue)) cf hK hN hA (c_V_has l D cI cZ 0 x1 x4 r15 h15) k_S_66 hN.2.2.1 ⟨rfl, rfl, by decide, by decide⟩ hl hP hD hS [] [0, 1, 2, 3, 4, 5] [0, 1, 2, 3, 4, 5] rfl rfl rfl (by decide) rfl rfl rfl rfl rfl (Nat.le_of_ble_eq_true rfl) rfl d_S_wrongLinks_15 (fun H locs hP hD hS => ?_)
      refine lv_if_eq hx hb d_S_wrongLinks_18 rfl (fun hc => ?_) (fun hc => ?_)
      · rw [if_pos hc] at h
        refine lv_iinc (k := 4) (v := (x4 + (nI 1))) (lv' := [(4, .int (x4 + (nI 1))), (0, .ref h_p0), (1, .int x1), (2, .int x2), (3, .int x3)]) hx hb d_S_wrongLinks_43 hl rfl rfl (by decide) rfl (fun ls hl => ?_)
        refine lv_goto hx hb d_S_wrongLinks_46 rfl ?_
        exact ih x1 x2 x3 (x4 + (nI 1)) h H locs ls (lv_sub hl [1, 2, 3, 4, 0] rfl) hP hD hS
      · rw [if_neg hc] at h
        refine lv_aload_n hx hb d_S_wrongLinks_21 rfl (lv_at hl 0 rfl) ?_
        refine lv_iload hx hb d_S_wrongLinks_22 (lv_at hl 4 rfl) ?_
        obtain ⟨r24, h24, h⟩ := bd_some h
        refine wk_Vi (As := [.int x4]) (rest := []) (wc := (w_S cI cZ h_p0 h_p0_maps h_p0_tables h_p0_words h_p0_blank h_p0_queue maps tables words blank queue)) (w1 := (w_S cI cZ h_p0 h_p0_maps h_p0_tables h_p0_words h_p0_blank h_p0_queue maps tables words blank queue)) (wr := []) (wz := (w_S cI cZ h_p0 h_p0_maps h_p0_tables h_p0_words h_p0_blank h_p0_queue maps tables words blank queue)) cf hK hN hA (c_S_links l D cI cZ h_p0 h_p0_maps h_p0_tables h_p0_words h_p0_blank h_p0_queue maps tables words blank queue x4 r24 h24) k_S_91 ⟨rfl, rfl, by decide, by decide⟩ 0 rfl rfl rfl hl hP hD hS [0, 1, 2, 3, 4, 5] [] [0, 1, 2, 3, 4, 5] rfl rfl rfl (by decide) rfl rfl rfl rfl rfl (Nat.le_of_ble_eq_true rfl) rfl d_S_wrongLinks_24 (fun H locs hP hD hS => ?_)
        refine lv_aload_n hx hb d_S_wrongLinks_27 rfl (lv_at hl 0 rfl) ?_
        refine lv_iload_n hx hb d_S_wrongLinks_28 rfl (lv_at hl 1 rfl) ?_
        refine lv_iload hx hb d_S_wrongLinks_29 (lv_at hl 4 rfl) ?_
        obtain ⟨r31, h31, h⟩ := bd_some h
        refine wk_Vi (As := [.int x1, .int x4]) (rest := [.int r24]) (wc := (w_S cI cZ h_p0 h_p0_maps h_p0_tables h_p0_words h_p0_blank h_p0_queue maps tables words blank queue)) (w1 := (w_S cI cZ h_p0 h_p0_maps h_p0_tables h_p0_words h_p0_blank h_p0_queue maps tables words blank queue)) (wr := []) (wz := (w_S cI cZ h_p0 h_p0_maps h_p0_tables h_p0_words h_p0_blank h_p0_queue maps tables words blank queue)) cf hK hN hA (c_S_entriesFor l D cI cZ h_p0 h_p0_maps h_p0_tables h_p0_words h_p0_blank h_p0_queue F maps tables words blank queue x1 x4 r31 h31) k_S_82 ⟨rfl, rfl, by decide, by decide⟩ 0 rfl rfl rfl hl hP hD hS [0, 1, 2, 3, 4, 5] [] [0, 1, 2, 3, 4, 5] rfl rfl rfl (by decide) rfl rfl rfl rfl rfl (Nat.le_of_ble_eq_true rfl) rfl d_S_wrongLinks_31 (fun H locs hP hD hS => ?_)
        refine lv_isub hx hb d_S_wrongLinks_34 ?_
        refine lv_iload_n hx hb d_S_wrongLinks_35 rfl (lv_at hl 2 rfl) ?_
        refine lv_imul hx hb d_S_wrongLinks_36 ?_
        refine lv_if_le hx hb d_S_wrongLinks_37 rfl (fun hc => ?_) (fun hc => ?_)
        · rw [if_pos hc] at h
          refine lv_iinc (k := 4) (v := (x4 + (nI 1))) (lv' := [(4, .int (x4 + (nI 1))), (0, .ref h_p0), (1, .int x1), (2, .int x2), (3, .int x3)]) hx hb d_S_wrongLinks_43 hl rfl rfl (by decide) rfl (fun ls hl => ?_)
          refine lv_goto hx hb d_S_wrongLinks_46 rfl ?_
          exact ih x1 x2 x3 (x4 + (nI 1)) h H locs ls (lv_sub hl [1, 2, 3, 4, 0] rfl) hP hD hS
        · rw [if_neg hc] at h
          refine lv_iinc (k := 3) (v := (x3 + (nI 1))) (lv' := [(3, .int (x3 + (nI 1))), (0, .ref h_p0), (1, .int x1), (2, .int x2), (4, .int x4)]) hx hb d_S_wrongLinks_40 hl rfl rfl (by decide) rfl (fun ls hl => ?_)
          refine lv_iinc (k := 4) (v := (x4 + (nI 1))) (lv' := [(4, .int (x4 + (nI 1))), (3, .int (x3 + (nI 1))), (0, .ref h_p0), (1, .int x1), (2, .int x2)]) hx hb d_S_wrongLinks_43 hl rfl rfl (by decide) rfl (fun ls hl => ?_)
          refine lv_goto hx hb d_S_wrongLinks_46 rfl ?_
          exact ih x1 x2 (x3 + (nI 1)) (x4 + (nI 1)) h H locs ls (lv_sub hl [2, 3, 4, 1, 0] rfl) hP hD hS
set_option maxHeartbeats 4000000 in
set_option maxRecDepth 100000 in
theorem c_S_wrongLinks (l : Launch) (D : va_G) (cI cZ : ClassId) (h_p0 h_p0_maps h_p0_tables h_p0_words h_p0_blank h_p0_queue : Nat) (F : Nat) (maps : (Nat → Int32)) (tables : (Nat → Int32)) (words : (Nat → Int32)) (blank : (Nat → Int32)) (queue : (Nat → Int32)) (x1 : Int32) (x2 : Int32) (r : Int32) (h : s_S_wrongLinks F tables words blank x1 x2 = some r) : sc_i l y_S_wrongLinks (o_S_wrongLinks :: wA) rm_S_wrongLinks D cI cZ [.ref h_p0, .int x1, .int x2] (w_S cI cZ h_p0 h_p0_maps h_p0_tables h_p0_words h_p0_blank h_p0_queue maps tables words blank queue) (w_S cI cZ h_p0 h_p0_maps h_p0_tables h_p0_words h_p0_blank h_p0_queue maps tables words blank queue) r := by
  refine sc_i_of (cc := b_S_wrongLinks) (maxL := 5) (ret := (some .int)) (by decide) rfl (Nat.le_of_ble_eq_true rfl) ?_
  intro p e s m below meth c A cf hr hlk hK hN hA H locs ls hl hP hD hS
  have hx := cf.1
  have hb := cf.2.1
  have hown := cf.2.2.2.1
  have ht : ∀ w ∈ wA, w.before _ s = true := fun w h => cf.2.2.2.2 w (List.mem_cons_of_mem _ h)
  unfold s_S_wrongLinks at h
  have hl : lv_has ls 5 [(0, .ref h_p0), (1, .int x1), (2, .int x2)] := hl
  refine lv_iconst (v := (nI 0)) hx hb d_S_wrongLinks_0 (by decide) ?_
  refine lv_istore_n (lv' := [(3, .int (nI 0)), (0, .ref h_p0), (1, .int x1), (2, .int x2)]) hx hb d_S_wrongLinks_1 rfl hl (by decide) rfl (fun ls hl => ?_)
  refine lv_iconst (v := (nI 1)) hx hb d_S_wrongLinks_2 (by decide) ?_
  refine lv_istore (lv' := [(4, .int (nI 1)), (3, .int (nI 0)), (0, .ref h_p0), (1, .int x1), (2, .int x2)]) hx hb d_S_wrongLinks_3 hl (by decide) rfl (fun ls hl => ?_)
  exact w_S_wrongLinks_5 h_p0 h_p0_maps h_p0_tables h_p0_words h_p0_blank h_p0_queue F maps tables words blank queue r ⟨cf, hr, hlk, hK, hN, hA⟩ F x1 x2 (nI 0) (nI 1) h H locs ls (lv_sub hl [2, 3, 4, 1, 0] rfl) hP hD hS
set_option maxHeartbeats 4000000 in
set_option maxRecDepth 100000 in
theorem w_V_areAlike_30 {p : Program} {l : Launch} {e : Env} {s : State} {m : MethodId} {args : Array Value} {below : List Frame} {meth : Method} {c : Code} {D : va_G} {cI cZ : ClassId} {A : Nat → Prop} (h_p0 h_p0_m h_p0_m_maps h_p0_m_tables h_p0_m_words h_p0_m_blank h_p0_m_queue h_p0_d h_p0_d_maps h_p0_d_tables h_p0_d_words h_p0_d_blank h_p0_d_queue h_p0_young h_p0_dropped h_p0_leaving : Nat) (F : Nat) (m_maps : (Nat → Int32)) (m_tables : (Nat → Int32)) (m_words : (Nat → Int32)) (m_blank : (Nat → Int32)) (m_queue : (Nat → Int32)) (d_maps : (Nat → Int32)) (d_tables : (Nat → Int32)) (d_words : (Nat → Int32)) (d_blank : (Nat → Int32)) (d_queue : (Nat → Int32)) (young : (Nat → Int32)) (dropped : (Nat → Int32)) (leaving : (Nat → Int32)) (ren : Int32) (r : Int32) (k2 : Int32 → Option (Int32)) (cx : cx_ok p s m args meth c b_V_areAlike 2 o_V_areAlike "OrderedVolume" (some .boolean) D cI cZ A) (h2 : (∀ (x1 : Int32), k2 x1 = some r → wk_G p l e rm_V_areAlike s m args below meth c (sc_Qi below args s D cI cZ A (w_V cI cZ h_p0 h_p0_m h_p0_m_maps h_p0_m_tables h_p0_m_words h_p0_m_blank h_p0_m_queue h_p0_d h_p0_d_maps h_p0_d_tables h_p0_d_words h_p0_d_blank h_p0_d_queue h_p0_young h_p0_dropped h_p0_leaving m_maps m_tables m_words m_blank m_queue d_maps d_tables d_words d_blank d_queue young dropped leaving ren) r) D A 2 2 [] [(0, .ref h_p0), (1, .int x1)] (w_V cI cZ h_p0 h_p0_m h_p0_m_maps h_p0_m_tables h_p0_m_words h_p0_m_blank h_p0_m_queue h_p0_d h_p0_d_maps h_p0_d_tables h_p0_d_words h_p0_d_blank h_p0_d_queue h_p0_young h_p0_dropped h_p0_leaving m_maps m_tables m_words m_blank m_queue d_maps d_tables d_words d_blank d_queue young dropped leaving ren))) : ∀ (x1 : Int32), s_V_areAlike_30 F m_maps m_tables m_words d_maps d_tables d_words d_blank k2 x1 = some r → wk_G p l e rm_V_areAlike s m args below meth c (sc_Qi below args s D cI cZ A (w_V cI cZ h_p0 h_p0_m h_p0_m_maps h_p0_m_tables h_p0_m_words h_p0_m_blank h_p0_m_queue h_p0_d h_p0_d_maps h_p0_d_tables h_p0_d_words h_p0_d_blank h_p0_d_queue h_p0_young h_p0_dropped h_p0_leaving m_maps m_tables m_words m_blank m_queue d_maps d_tables d_words d_blank d_queue young dropped leaving ren) r) D A 2 30 [] [(0, .ref h_p0), (1, .int x1)] (w_V cI cZ h_p0 h_p0_m h_p0_m_maps h_p0_m_tables h_p0_m_words h_p0_m_blank h_p0_m_queue h_p0_d h_p0_d_maps h_p0_d_tables h_p0_d_words h_p0_d_blank h_p0_d_queue h_p0_young h_p0_dropped h_p0_leaving m_maps m_tables m_words m_blank m_queue d_maps d_tables d_words d_blank d_queue young dropped leaving ren) := by
  obtain ⟨cf, hr, hlk, hK, hN, hA⟩ := cx
  have hx := cf.1
  have hb := cf.2.1
  have hown := cf.2.2.2.1
  have ht : ∀ w ∈ wA, w.before args s = true := fun w h => cf.2.2.2.2 w (List.mem_cons_of_mem _ h)
  intro x1 h H locs ls hl hP hD hS
  unfold s_V_areAlike_30 at h
  refine lv_aload_n hx hb d_V_areAlike_30 rfl (lv_at hl 0 rfl) ?_
  refine va_get (D := D) (ci := 1) (v := .ref h_p0_d) (C := R_V) (T := F_V) (N := 6) hx hb ht in_V hown hK hP 0 rfl rfl 1 (by decide) (ht _ f_V_16) (fun _ h9 => h9) rfl d_V_areAlike_31 ?_
  refine lv_iload_n hx hb d_V_areAlike_34 rfl (lv_at hl 1 rfl) ?_
  obtain ⟨r35, h35, h⟩ := bd_some h
  refine wk_Vi (As := [.int x1]) (rest := []) (wc := (w_S cI cZ h_p0_d h_p0_d_maps h_p0_d_tables h_p0_d_words h_p0_d_blank h_p0_d_queue d_maps d_tables d_words d_blank d_queue)) (w1 := (w_S cI cZ h_p0_d h_p0_d_maps h_p0_d_tables h_p0_d_words h_p0_d_blank h_p0_d_queue d_maps d_tables d_words d_blank d_queue)) (wr := [(h_p0, .inr (1, [.ref h_p0_m, .ref h_p0_d, .ref h_p0_young, .ref h_p0_dropped, .ref h_p0_leaving, .int ren])), (h_p0_m, .inr (0, [.ref h_p0_m_maps, .ref h_p0_m_tables, .ref h_p0_m_words, .ref h_p0_m_blank, .ref h_p0_m_queue])), (h_p0_m_maps, .inl (cI, 48, .inl m_maps)), (h_p0_m_tables, .inl (cI, 90, .inl m_tables)), (h_p0_m_words, .inl (cI, 288, .inl m_words)), (h_p0_m_blank, .inl (cZ, 36, .inl m_blank)), (h_p0_m_queue, .inl (cI, 18, .inl m_queue)), (h_p0_young, .inl (cI, 36, .inl young)), (h_p0_dropped, .inl (cI, 36, .inl dropped)), (h_p0_leaving, .inl (cI, 18, .inl leaving))]) (wz := (w_V cI cZ h_p0 h_p0_m h_p0_m_maps h_p0_m_tables h_p0_m_words h_p0_m_blank h_p0_m_queue h_p0_d h_p0_d_maps h_p0_d_tables h_p0_d_words h_p0_d_blank h_p0_d_queue h_p0_young h_p0_dropped h_p0_leaving m_maps m_tables m_words m_blank m_queue d_maps d_tables d_words d_blank d_queue young dropped leaving ren)) cf hK hN hA (c_S_isBlank l D cI cZ h_p0_d h_p0_d_maps h_p0_d_tables h_p0_d_words h_p0_d_blank h_p0_d_queue d_maps d_tables d_words d_blank d_queue x1 r35 h35) k_V_216 ⟨rfl, rfl, by decide, by decide⟩ 0 rfl rfl rfl hl hP hD hS [7, 8, 9, 10, 11, 12] [0, 1, 2, 3, 4, 5, 6, 13, 14, 15] [0, 1, 2, 3, 4, 5, 6, 10, 11, 12, 13, 14, 15, 7, 8, 9] rfl rfl rfl (by decide) rfl rfl rfl rfl rfl (Nat.le_of_ble_eq_true rfl) rfl d_V_areAlike_35 (fun H locs hP hD hS => ?_)
  refine lv_if_ne hx hb d_V_areAlike_38 rfl (fun hc => ?_) (fun hc => ?_)
  · rw [if_neg hc] at h
    refine lv_iconst (v := (nI 0)) hx hb d_V_areAlike_56 (by decide) ?_
    have hz : ((nI 0) : Int32) = 0 ∨ ((nI 0) : Int32) = 1 := by decide
    cases h
    exact sc_zret cf hr hlk hz hK hP hD hS d_V_areAlike_57
  · rw [if_pos hc] at h
    refine lv_aload_n hx hb d_V_areAlike_41 rfl (lv_at hl 0 rfl) ?_
    refine va_get (D := D) (ci := 1) (v := .ref h_p0_m) (C := R_V) (T := F_V) (N := 6) hx hb ht in_V hown hK hP 0 rfl rfl 0 (by decide) (ht _ f_V_10) (fun _ h9 => h9) rfl d_V_areAlike_42 ?_
    refine lv_aload_n hx hb d_V_areAlike_45 rfl (lv_at hl 0 rfl) ?_
    refine va_get (D := D) (ci := 1) (v := .ref h_p0_d) (C := R_V) (T := F_V) (N := 6) hx hb ht in_V hown hK hP 0 rfl rfl 1 (by decide) (ht _ f_V_16) (fun _ h9 => h9) rfl d_V_areAlike_46 ?_
    refine lv_iload_n hx hb d_V_areAlike_49 rfl (lv_at hl 1 rfl) ?_
    obtain ⟨r50, h50, h⟩ := bd_some h
    refine wk_Vi (As := [.ref h_p0_d, .int x1]) (rest := []) (wc := (w_S cI cZ h_p0_m h_p0_m_maps h_p0_m_tables h_p0_m_words h_p0_m_blank h_p0_m_queue m_maps m_tables m_words m_blank m_queue) ++ (w_S cI cZ h_p0_d h_p0_d_maps h_p0_d_tables h_p0_d_words h_p0_d_blank h_p0_d_queue d_maps d_tables d_words d_blank d_queue)) (w1 := (w_S cI cZ h_p0_m h_p0_m_maps h_p0_m_tables h_p0_m_words h_p0_m_blank h_p0_m_queue m_maps m_tables m_words m_blank m_queue) ++ (w_S cI cZ h_p0_d h_p0_d_maps h_p0_d_tables h_p0_d_words h_p0_d_blank h_p0_d_queue d_maps d_tables d_words d_blank d_queue)) (wr := [(h_p0, .inr (1, [.ref h_p0_m, .ref h_p0_d, .ref h_p0_young, .ref h_p0_dropped, .ref h_p0_leaving, .int ren])), (h_p0_young, .inl (cI, 36, .inl young)), (h_p0_dropped, .inl (cI, 36, .inl dropped)), (h_p0_leaving, .inl (cI, 18, .inl leaving))]) (wz := (w_V cI cZ h_p0 h_p0_m h_p0_m_maps h_p0_m_tables h_p0_m_words h_p0_m_blank h_p0_m_queue h_p0_d h_p0_d_maps h_p0_d_tables h_p0_d_words h_p0_d_blank h_p0_d_queue h_p0_young h_p0_dropped h_p0_leaving m_maps m_tables m_words m_blank m_queue d_maps d_tables d_words d_blank d_queue young dropped leaving ren)) cf hK hN hA (c_S_sameBlock l D cI cZ h_p0_m h_p0_m_maps h_p0_m_tables h_p0_m_words h_p0_m_blank h_p0_m_queue h_p0_d h_p0_d_maps h_p0_d_tables h_p0_d_words h_p0_d_blank h_p0_d_queue F m_maps m_tables m_words m_blank m_queue d_maps d_tables d_words d_blank d_queue x1 r50 h50) k_V_219 ⟨rfl, rfl, by decide, by decide⟩ 0 rfl rfl rfl hl hP hD hS [1, 2, 3, 4, 5, 6, 7, 8, 9, 10, 11, 12] [0, 13, 14, 15] [0, 4, 5, 6, 7, 8, 9, 10, 11, 12, 13, 14, 15, 1, 2, 3] rfl rfl rfl (by decide) rfl rfl rfl rfl rfl (Nat.le_of_ble_eq_true rfl) rfl d_V_areAlike_50 (fun H locs hP hD hS => ?_)
    refine lv_if_ne hx hb d_V_areAlike_53 rfl (fun hc => ?_) (fun hc => ?_)
    · rw [if_neg hc] at h
      refine lv_iinc (k := 1) (v := (x1 + (nI 1))) (lv' := [(1, .int (x1 + (nI 1))), (0, .ref h_p0)]) hx hb d_V_areAlike_58 hl rfl rfl (by decide) rfl (fun ls hl => ?_)
      refine lv_goto hx hb d_V_areAlike_61 rfl ?_
      exact h2 (x1 + (nI 1)) h H locs ls (lv_sub hl [1, 0] rfl) hP hD hS
    · rw [if_pos hc] at h
      refine lv_iconst (v := (nI 0)) hx hb d_V_areAlike_56 (by decide) ?_
      have hz : ((nI 0) : Int32) = 0 ∨ ((nI 0) : Int32) = 1 := by decide
      cases h
      exact sc_zret cf hr hlk hz hK hP hD hS d_V_areAlike_57
set_option maxHeartbeats 4000000 in
set_option maxRecDepth 100000 in
theorem w_V_areAlike_2 {p : Program} {l : Launch} {e : Env} {s : State} {m : MethodId} {args : Array Value} {below : List Frame} {meth : Method} {c : Code} {D : va_G} {cI cZ : ClassId} {A : Nat → Prop} (h_p0 h_p0_m h_p0_m_maps h_p0_m_tables h_p0_m_words h_p0_m_blank h_p0_m_queue h_p0_d h_p0_d_maps h_p0_d_tables h_p0_d_words h_p0_d_blank h_p0_d_queue h_p0_young h_p0_dropped h_p0_leaving : Nat) (F : Nat) (m_maps : (Nat → Int32)) (m_tables : (Nat → Int32)) (m_words : (Nat → Int32)) (m_blank : (Nat → Int32)) (m_queue : (Nat → Int32)) (d_maps : (Nat → Int32)) (d_tables : (Nat → Int32)) (d_words : (Nat → Int32)) (d_blank : (Nat → Int32)) (d_queue : (Nat → Int32)) (young : (Nat → Int32)) (dropped : (Nat → Int32)) (leaving : (Nat → Int32)) (ren : Int32) (r : Int32) (cx : cx_ok p s m args meth c b_V_areAlike 2 o_V_areAlike "OrderedVolume" (some .boolean) D cI cZ A) : ∀ (n : Nat) (x1 : Int32), s_V_areAlike_2 F m_maps m_tables m_words d_maps d_tables d_words d_blank n x1 = some r → wk_G p l e rm_V_areAlike s m args below meth c (sc_Qi below args s D cI cZ A (w_V cI cZ h_p0 h_p0_m h_p0_m_maps h_p0_m_tables h_p0_m_words h_p0_m_blank h_p0_m_queue h_p0_d h_p0_d_maps h_p0_d_tables h_p0_d_words h_p0_d_blank h_p0_d_queue h_p0_young h_p0_dropped h_p0_leaving m_maps m_tables m_words m_blank m_queue d_maps d_tables d_words d_blank d_queue young dropped leaving ren) r) D A 2 2 [] [(0, .ref h_p0), (1, .int x1)] (w_V cI cZ h_p0 h_p0_m h_p0_m_maps h_p0_m_tables h_p0_m_words h_p0_m_blank h_p0_m_queue h_p0_d h_p0_d_maps h_p0_d_tables h_p0_d_words h_p0_d_blank h_p0_d_queue h_p0_young h_p0_dropped h_p0_leaving m_maps m_tables m_words m_blank m_queue d_maps d_tables d_words d_blank d_queue young dropped leaving ren) := by
  obtain ⟨cf, hr, hlk, hK, hN, hA⟩ := cx
  have hx := cf.1
  have hb := cf.2.1
  have hown := cf.2.2.2.1
  have ht : ∀ w ∈ wA, w.before args s = true := fun w h => cf.2.2.2.2 w (List.mem_cons_of_mem _ h)
  intro n
  induction n with
  | zero => intro x1 h; cases (show (none : Option (Int32)) = some _ from h)
  | succ n ih =>
    intro x1 h H locs ls hl hP hD hS
    unfold s_V_areAlike_2 at h
    refine lv_iload_n hx hb d_V_areAlike_2 rfl (lv_at hl 1 rfl) ?_
    refine lv_bipush (v := (nI 36)) hx hb d_V_areAlike_3 (by decide) ?_
    refine lv_icmp_ge hx hb d_V_areAlike_5 rfl (fun hc => ?_) (fun hc => ?_)
    · rw [if_pos hc] at h
      refine lv_iconst (v := (nI 1)) hx hb d_V_areAlike_64 (by decide) ?_
      have hz : ((nI 1) : Int32) = 0 ∨ ((nI 1) : Int32) = 1 := by decide
      cases h
      exact sc_zret cf hr hlk hz hK hP hD hS d_V_areAlike_65
    · rw [if_neg hc] at h
      refine lv_iload_n hx hb d_V_areAlike_8 rfl (lv_at hl 1 rfl) ?_
      obtain ⟨r9, h9, h⟩ := bd_some h
      refine wk_Si (As := [.int x1]) (rest := []) (wc := []) (w1 := []) (wr := [(h_p0, .inr (1, [.ref h_p0_m, .ref h_p0_d, .ref h_p0_young, .ref h_p0_dropped, .ref h_p0_leaving, .int ren])), (h_p0_m, .inr (0, [.ref h_p0_m_maps, .ref h_p0_m_tables, .ref h_p0_m_words, .ref h_p0_m_blank, .ref h_p0_m_queue])), (h_p0_m_maps, .inl (cI, 48, .inl m_maps)), (h_p0_m_tables, .inl (cI, 90, .inl m_tables)), (h_p0_m_words, .inl (cI, 288, .inl m_words)), (h_p0_m_blank, .inl (cZ, 36, .inl m_blank)), (h_p0_m_queue, .inl (cI, 18, .inl m_queue)), (h_p0_d, .inr (0, [.ref h_p0_d_maps, .ref h_p0_d_tables, .ref h_p0_d_words, .ref h_p0_d_blank, .ref h_p0_d_queue])), (h_p0_d_maps, .inl (cI, 48, .inl d_maps)), (h_p0_d_tables, .inl (cI, 90, .inl d_tables)), (h_p0_d_words, .inl (cI, 288, .inl d_words)), (h_p0_d_blank, .inl (cZ, 36, .inl d_blank)), (h_p0_d_queue, .inl (cI, 18, .inl d_queue)), (h_p0_young, .inl (cI, 36, .inl young)), (h_p0_dropped, .inl (cI, 36, .inl dropped)), (h_p0_leaving, .inl (cI, 18, .inl leaving))]) (wz := (w_V cI cZ h_p0 h_p0_m h_p0_m_maps h_p0_m_tables h_p0_m_words h_p0_m_blank h_p0_m_queue h_p0_d h_p0_d_maps h_p0_d_tables h_p0_d_words h_p0_d_blank h_p0_d_queue h_p0_young h_p0_dropped h_p0_leaving m_maps m_tables m_words m_blank m_queue d_maps d_tables d_words d_blank d_queue young dropped leaving ren)) cf hK hN hA (c_V_isData l D cI cZ 0 x1 r9 h9) k_V_155 ⟨rfl, rfl, by decide, by decide⟩ hl hP hD hS [] [0, 1, 2, 3, 4, 5, 6, 7, 8, 9, 10, 11, 12, 13, 14, 15] [0, 1, 2, 3, 4, 5, 6, 7, 8, 9, 10, 11, 12, 13, 14, 15] rfl rfl rfl (by decide) rfl rfl rfl rfl rfl (Nat.le_of_ble_eq_true rfl) rfl d_V_areAlike_9 (fun H locs hP hD hS => ?_)
      refine lv_if_eq hx hb d_V_areAlike_12 rfl (fun hc => ?_) (fun hc => ?_)
      · rw [if_pos hc] at h
        exact w_V_areAlike_30 h_p0 h_p0_m h_p0_m_maps h_p0_m_tables h_p0_m_words h_p0_m_blank h_p0_m_queue h_p0_d h_p0_d_maps h_p0_d_tables h_p0_d_words h_p0_d_blank h_p0_d_queue h_p0_young h_p0_dropped h_p0_leaving F m_maps m_tables m_words m_blank m_queue d_maps d_tables d_words d_blank d_queue young dropped leaving ren r _ ⟨cf, hr, hlk, hK, hN, hA⟩ ih x1 h H locs ls (lv_sub hl [0, 1] rfl) hP hD hS
      · rw [if_neg hc] at h
        refine lv_aload_n hx hb d_V_areAlike_15 rfl (lv_at hl 0 rfl) ?_
        refine va_get (D := D) (ci := 1) (v := .ref h_p0_m) (C := R_V) (T := F_V) (N := 6) hx hb ht in_V hown hK hP 0 rfl rfl 0 (by decide) (ht _ f_V_10) (fun _ h9 => h9) rfl d_V_areAlike_16 ?_
        refine lv_iload_n hx hb d_V_areAlike_19 rfl (lv_at hl 1 rfl) ?_
        obtain ⟨r20, h20, h⟩ := bd_some h
        refine wk_Vi (As := [.int x1]) (rest := []) (wc := (w_S cI cZ h_p0_m h_p0_m_maps h_p0_m_tables h_p0_m_words h_p0_m_blank h_p0_m_queue m_maps m_tables m_words m_blank m_queue)) (w1 := (w_S cI cZ h_p0_m h_p0_m_maps h_p0_m_tables h_p0_m_words h_p0_m_blank h_p0_m_queue m_maps m_tables m_words m_blank m_queue)) (wr := [(h_p0, .inr (1, [.ref h_p0_m, .ref h_p0_d, .ref h_p0_young, .ref h_p0_dropped, .ref h_p0_leaving, .int ren])), (h_p0_d, .inr (0, [.ref h_p0_d_maps, .ref h_p0_d_tables, .ref h_p0_d_words, .ref h_p0_d_blank, .ref h_p0_d_queue])), (h_p0_d_maps, .inl (cI, 48, .inl d_maps)), (h_p0_d_tables, .inl (cI, 90, .inl d_tables)), (h_p0_d_words, .inl (cI, 288, .inl d_words)), (h_p0_d_blank, .inl (cZ, 36, .inl d_blank)), (h_p0_d_queue, .inl (cI, 18, .inl d_queue)), (h_p0_young, .inl (cI, 36, .inl young)), (h_p0_dropped, .inl (cI, 36, .inl dropped)), (h_p0_leaving, .inl (cI, 18, .inl leaving))]) (wz := (w_V cI cZ h_p0 h_p0_m h_p0_m_maps h_p0_m_tables h_p0_m_words h_p0_m_blank h_p0_m_queue h_p0_d h_p0_d_maps h_p0_d_tables h_p0_d_words h_p0_d_blank h_p0_d_queue h_p0_young h_p0_dropped h_p0_leaving m_maps m_tables m_words m_blank m_queue d_maps d_tables d_words d_blank d_queue young dropped leaving ren)) cf hK hN hA (c_S_namer l D cI cZ h_p0_m h_p0_m_maps h_p0_m_tables h_p0_m_words h_p0_m_blank h_p0_m_queue F m_maps m_tables m_words m_blank m_queue x1 r20 h20) k_V_206 ⟨rfl, rfl, by decide, by decide⟩ 0 rfl rfl rfl hl hP hD hS [1, 2, 3, 4, 5, 6] [0, 7, 8, 9, 10, 11, 12, 13, 14, 15] [0, 10, 11, 12, 13, 14, 15, 1, 2, 3, 4, 5, 6, 7, 8, 9] rfl rfl rfl (by decide) rfl rfl rfl rfl rfl (Nat.le_of_ble_eq_true rfl) rfl d_V_areAlike_20 (fun H locs hP hD hS => ?_)
        refine lv_iconst (v := (-1)) hx hb d_V_areAlike_23 (by decide) ?_
        refine lv_icmp_ne hx hb d_V_areAlike_24 rfl (fun hc => ?_) (fun hc => ?_)
        · rw [if_neg hc] at h
          exact w_V_areAlike_30 h_p0 h_p0_m h_p0_m_maps h_p0_m_tables h_p0_m_words h_p0_m_blank h_p0_m_queue h_p0_d h_p0_d_maps h_p0_d_tables h_p0_d_words h_p0_d_blank h_p0_d_queue h_p0_young h_p0_dropped h_p0_leaving F m_maps m_tables m_words m_blank m_queue d_maps d_tables d_words d_blank d_queue young dropped leaving ren r _ ⟨cf, hr, hlk, hK, hN, hA⟩ ih x1 h H locs ls (lv_sub hl [0, 1] rfl) hP hD hS
        · rw [if_pos hc] at h
          refine lv_goto hx hb d_V_areAlike_27 rfl ?_
          refine lv_iinc (k := 1) (v := (x1 + (nI 1))) (lv' := [(1, .int (x1 + (nI 1))), (0, .ref h_p0)]) hx hb d_V_areAlike_58 hl rfl rfl (by decide) rfl (fun ls hl => ?_)
          refine lv_goto hx hb d_V_areAlike_61 rfl ?_
          exact ih (x1 + (nI 1)) h H locs ls (lv_sub hl [1, 0] rfl) hP hD hS
set_option maxHeartbeats 4000000 in
set_option maxRecDepth 100000 in
theorem c_V_areAlike (l : Launch) (D : va_G) (cI cZ : ClassId) (h_p0 h_p0_m h_p0_m_maps h_p0_m_tables h_p0_m_words h_p0_m_blank h_p0_m_queue h_p0_d h_p0_d_maps h_p0_d_tables h_p0_d_words h_p0_d_blank h_p0_d_queue h_p0_young h_p0_dropped h_p0_leaving : Nat) (F : Nat) (m_maps : (Nat → Int32)) (m_tables : (Nat → Int32)) (m_words : (Nat → Int32)) (m_blank : (Nat → Int32)) (m_queue : (Nat → Int32)) (d_maps : (Nat → Int32)) (d_tables : (Nat → Int32)) (d_words : (Nat → Int32)) (d_blank : (Nat → Int32)) (d_queue : (Nat → Int32)) (young : (Nat → Int32)) (dropped : (Nat → Int32)) (leaving : (Nat → Int32)) (ren : Int32) (r : Int32) (h : s_V_areAlike F m_maps m_tables m_words d_maps d_tables d_words d_blank = some r) : sc_i l y_V_areAlike (o_V_areAlike :: wA) rm_V_areAlike D cI cZ [.ref h_p0] (w_V cI cZ h_p0 h_p0_m h_p0_m_maps h_p0_m_tables h_p0_m_words h_p0_m_blank h_p0_m_queue h_p0_d h_p0_d_maps h_p0_d_tables h_p0_d_words h_p0_d_blank h_p0_d_queue h_p0_young h_p0_dropped h_p0_leaving m_maps m_tables m_words m_blank m_queue d_maps d_tables d_words d_blank d_queue young dropped leaving ren) (w_V cI cZ h_p0 h_p0_m h_p0_m_maps h_p0_m_tables h_p0_m_words h_p0_m_blank h_p0_m_queue h_p0_d h_p0_d_maps h_p0_d_tables h_p0_d_words h_p0_d_blank h_p0_d_queue h_p0_young h_p0_dropped h_p0_leaving m_maps m_tables m_words m_blank m_queue d_maps d_tables d_words d_blank d_queue young dropped leaving ren) r := by
  refine sc_i_of (cc := b_V_areAlike) (maxL := 2) (ret := (some .boolean)) (by decide) rfl (Nat.le_of_ble_eq_true rfl) ?_
  intro p e s m below meth c A cf hr hlk hK hN hA H locs ls hl hP hD hS
  have hx := cf.1
  have hb := cf.2.1
  have hown := cf.2.2.2.1
  have ht : ∀ w ∈ wA, w.before _ s = true := fun w h => cf.2.2.2.2 w (List.mem_cons_of_mem _ h)
  unfold s_V_areAlike at h
  have hl : lv_has ls 2 [(0, .ref h_p0)] := hl
  refine lv_iconst (v := (nI 0)) hx hb d_V_areAlike_0 (by decide) ?_
  refine lv_istore_n (lv' := [(1, .int (nI 0)), (0, .ref h_p0)]) hx hb d_V_areAlike_1 rfl hl (by decide) rfl (fun ls hl => ?_)
  exact w_V_areAlike_2 h_p0 h_p0_m h_p0_m_maps h_p0_m_tables h_p0_m_words h_p0_m_blank h_p0_m_queue h_p0_d h_p0_d_maps h_p0_d_tables h_p0_d_words h_p0_d_blank h_p0_d_queue h_p0_young h_p0_dropped h_p0_leaving F m_maps m_tables m_words m_blank m_queue d_maps d_tables d_words d_blank d_queue young dropped leaving ren r ⟨cf, hr, hlk, hK, hN, hA⟩ F (nI 0) h H locs ls (lv_sub hl [1, 0] rfl) hP hD hS
set_option maxHeartbeats 4000000 in
set_option maxRecDepth 100000 in
theorem w_V_blockForPointer_59 {p : Program} {l : Launch} {e : Env} {s : State} {m : MethodId} {args : Array Value} {below : List Frame} {meth : Method} {c : Code} {D : va_G} {cI cZ : ClassId} {A : Nat → Prop} (h_p0 h_p0_m h_p0_m_maps h_p0_m_tables h_p0_m_words h_p0_m_blank h_p0_m_queue h_p0_d h_p0_d_maps h_p0_d_tables h_p0_d_words h_p0_d_blank h_p0_d_queue h_p0_young h_p0_dropped h_p0_leaving : Nat) (F : Nat) (m_maps : (Nat → Int32)) (m_tables : (Nat → Int32)) (m_words : (Nat → Int32)) (m_blank : (Nat → Int32)) (m_queue : (Nat → Int32)) (d_maps : (Nat → Int32)) (d_tables : (Nat → Int32)) (d_words : (Nat → Int32)) (d_blank : (Nat → Int32)) (d_queue : (Nat → Int32)) (young : (Nat → Int32)) (dropped : (Nat → Int32)) (leaving : (Nat → Int32)) (ren : Int32) (r : Int32) (cx : cx_ok p s m args meth c b_V_blockForPointer 5 o_V_blockForPointer "OrderedVolume" (some .int) D cI cZ A) : ∀ (x1 : Int32), s_V_blockForPointer_59 F m_maps m_tables x1 = some r → wk_G p l e rm_V_blockForPointer s m args below meth c (sc_Qi below args s D cI cZ A (w_V cI cZ h_p0 h_p0_m h_p0_m_maps h_p0_m_tables h_p0_m_words h_p0_m_blank h_p0_m_queue h_p0_d h_p0_d_maps h_p0_d_tables h_p0_d_words h_p0_d_blank h_p0_d_queue h_p0_young h_p0_dropped h_p0_leaving m_maps m_tables m_words m_blank m_queue d_maps d_tables d_words d_blank d_queue young dropped leaving ren) r) D A 5 59 [] [(0, .ref h_p0), (1, .int x1)] (w_V cI cZ h_p0 h_p0_m h_p0_m_maps h_p0_m_tables h_p0_m_words h_p0_m_blank h_p0_m_queue h_p0_d h_p0_d_maps h_p0_d_tables h_p0_d_words h_p0_d_blank h_p0_d_queue h_p0_young h_p0_dropped h_p0_leaving m_maps m_tables m_words m_blank m_queue d_maps d_tables d_words d_blank d_queue young dropped leaving ren) := by
  obtain ⟨cf, hr, hlk, hK, hN, hA⟩ := cx
  have hx := cf.1
  have hb := cf.2.1
  have hown := cf.2.2.2.1
  have ht : ∀ w ∈ wA, w.before args s = true := fun w h => cf.2.2.2.2 w (List.mem_cons_of_mem _ h)
  intro x1 h H locs ls hl hP hD hS
  unfold s_V_blockForPointer_59 at h
  refine lv_aload_n hx hb d_V_blockForPointer_59 rfl (lv_at hl 0 rfl) ?_
  refine va_get (D := D) (ci := 1) (v := .ref h_p0_m) (C := R_V) (T := F_V) (N := 6) hx hb ht in_V hown hK hP 0 rfl rfl 0 (by decide) (ht _ f_V_10) (fun _ h9 => h9) rfl d_V_blockForPointer_60 ?_
  refine lv_iload_n hx hb d_V_blockForPointer_63 rfl (lv_at hl 1 rfl) ?_
  refine lv_bipush (v := (nI 6)) hx hb d_V_blockForPointer_64 (by decide) ?_
  refine lv_idiv hx hb d_V_blockForPointer_66 (by decide) ?_
  obtain ⟨r67, h67, h⟩ := bd_some h
  refine wk_Vi (As := [.int (x1 / (nI 6))]) (rest := []) (wc := (w_S cI cZ h_p0_m h_p0_m_maps h_p0_m_tables h_p0_m_words h_p0_m_blank h_p0_m_queue m_maps m_tables m_words m_blank m_queue)) (w1 := (w_S cI cZ h_p0_m h_p0_m_maps h_p0_m_tables h_p0_m_words h_p0_m_blank h_p0_m_queue m_maps m_tables m_words m_blank m_queue)) (wr := [(h_p0, .inr (1, [.ref h_p0_m, .ref h_p0_d, .ref h_p0_young, .ref h_p0_dropped, .ref h_p0_leaving, .int ren])), (h_p0_d, .inr (0, [.ref h_p0_d_maps, .ref h_p0_d_tables, .ref h_p0_d_words, .ref h_p0_d_blank, .ref h_p0_d_queue])), (h_p0_d_maps, .inl (cI, 48, .inl d_maps)), (h_p0_d_tables, .inl (cI, 90, .inl d_tables)), (h_p0_d_words, .inl (cI, 288, .inl d_words)), (h_p0_d_blank, .inl (cZ, 36, .inl d_blank)), (h_p0_d_queue, .inl (cI, 18, .inl d_queue)), (h_p0_young, .inl (cI, 36, .inl young)), (h_p0_dropped, .inl (cI, 36, .inl dropped)), (h_p0_leaving, .inl (cI, 18, .inl leaving))]) (wz := (w_V cI cZ h_p0 h_p0_m h_p0_m_maps h_p0_m_tables h_p0_m_words h_p0_m_blank h_p0_m_queue h_p0_d h_p0_d_maps h_p0_d_tables h_p0_d_words h_p0_d_blank h_p0_d_queue h_p0_young h_p0_dropped h_p0_leaving m_maps m_tables m_words m_blank m_queue d_maps d_tables d_words d_blank d_queue young dropped leaving ren)) cf hK hN hA (c_S_freeBlock l D cI cZ h_p0_m h_p0_m_maps h_p0_m_tables h_p0_m_words h_p0_m_blank h_p0_m_queue F m_maps m_tables m_words m_blank m_queue (x1 / (nI 6)) r67 h67) k_V_66 ⟨rfl, rfl, by decide, by decide⟩ 0 rfl rfl rfl hl hP hD hS [1, 2, 3, 4, 5, 6] [0, 7, 8, 9, 10, 11, 12, 13, 14, 15] [0, 10, 11, 12, 13, 14, 15, 1, 2, 3, 4, 5, 6, 7, 8, 9] rfl rfl rfl (by decide) rfl rfl rfl rfl rfl (Nat.le_of_ble_eq_true rfl) rfl d_V_blockForPointer_67 (fun H locs hP hD hS => ?_)
  cases h
  exact sc_iret cf hr hlk hK hP hD hS d_V_blockForPointer_70
set_option maxHeartbeats 4000000 in
set_option maxRecDepth 100000 in
theorem w_V_blockForPointer_19 {p : Program} {l : Launch} {e : Env} {s : State} {m : MethodId} {args : Array Value} {below : List Frame} {meth : Method} {c : Code} {D : va_G} {cI cZ : ClassId} {A : Nat → Prop} (h_p0 h_p0_m h_p0_m_maps h_p0_m_tables h_p0_m_words h_p0_m_blank h_p0_m_queue h_p0_d h_p0_d_maps h_p0_d_tables h_p0_d_words h_p0_d_blank h_p0_d_queue h_p0_young h_p0_dropped h_p0_leaving : Nat) (F : Nat) (m_maps : (Nat → Int32)) (m_tables : (Nat → Int32)) (m_words : (Nat → Int32)) (m_blank : (Nat → Int32)) (m_queue : (Nat → Int32)) (d_maps : (Nat → Int32)) (d_tables : (Nat → Int32)) (d_words : (Nat → Int32)) (d_blank : (Nat → Int32)) (d_queue : (Nat → Int32)) (young : (Nat → Int32)) (dropped : (Nat → Int32)) (leaving : (Nat → Int32)) (ren : Int32) (r : Int32) (cx : cx_ok p s m args meth c b_V_blockForPointer 5 o_V_blockForPointer "OrderedVolume" (some .int) D cI cZ A) : ∀ (x1 : Int32) (t0 : Int32), s_V_blockForPointer_19 F m_maps m_tables x1 t0 = some r → wk_G p l e rm_V_blockForPointer s m args below meth c (sc_Qi below args s D cI cZ A (w_V cI cZ h_p0 h_p0_m h_p0_m_maps h_p0_m_tables h_p0_m_words h_p0_m_blank h_p0_m_queue h_p0_d h_p0_d_maps h_p0_d_tables h_p0_d_words h_p0_d_blank h_p0_d_queue h_p0_young h_p0_dropped h_p0_leaving m_maps m_tables m_words m_blank m_queue d_maps d_tables d_words d_blank d_queue young dropped leaving ren) r) D A 5 19 [.int t0] [(0, .ref h_p0), (1, .int x1)] (w_V cI cZ h_p0 h_p0_m h_p0_m_maps h_p0_m_tables h_p0_m_words h_p0_m_blank h_p0_m_queue h_p0_d h_p0_d_maps h_p0_d_tables h_p0_d_words h_p0_d_blank h_p0_d_queue h_p0_young h_p0_dropped h_p0_leaving m_maps m_tables m_words m_blank m_queue d_maps d_tables d_words d_blank d_queue young dropped leaving ren) := by
  obtain ⟨cf, hr, hlk, hK, hN, hA⟩ := cx
  have hx := cf.1
  have hb := cf.2.1
  have hown := cf.2.2.2.1
  have ht : ∀ w ∈ wA, w.before args s = true := fun w h => cf.2.2.2.2 w (List.mem_cons_of_mem _ h)
  intro x1 t0 h H locs ls hl hP hD hS
  unfold s_V_blockForPointer_19 at h
  refine lv_istore_n (lv' := [(3, .int t0), (0, .ref h_p0), (1, .int x1)]) hx hb d_V_blockForPointer_19 rfl hl (by decide) rfl (fun ls hl => ?_)
  refine lv_iload_n hx hb d_V_blockForPointer_20 rfl (lv_at hl 0 rfl) ?_
  refine lv_if_eq hx hb d_V_blockForPointer_21 rfl (fun hc => ?_) (fun hc => ?_)
  · rw [if_pos hc] at h
    exact w_V_blockForPointer_59 h_p0 h_p0_m h_p0_m_maps h_p0_m_tables h_p0_m_words h_p0_m_blank h_p0_m_queue h_p0_d h_p0_d_maps h_p0_d_tables h_p0_d_words h_p0_d_blank h_p0_d_queue h_p0_young h_p0_dropped h_p0_leaving F m_maps m_tables m_words m_blank m_queue d_maps d_tables d_words d_blank d_queue young dropped leaving ren r ⟨cf, hr, hlk, hK, hN, hA⟩ x1 h H locs ls (lv_sub hl [1, 2] rfl) hP hD hS
  · rw [if_neg hc] at h
    refine lv_iload_n hx hb d_V_blockForPointer_24 rfl (lv_at hl 0 rfl) ?_
    refine lv_iconst (v := (nI 1)) hx hb d_V_blockForPointer_25 (by decide) ?_
    refine lv_iadd hx hb d_V_blockForPointer_26 ?_
    refine lv_istore (lv' := [(4, .int (t0 + (nI 1))), (3, .int t0), (0, .ref h_p0), (1, .int x1)]) hx hb d_V_blockForPointer_27 hl (by decide) rfl (fun ls hl => ?_)
    refine lv_iload hx hb d_V_blockForPointer_29 (lv_at hl 0 rfl) ?_
    refine lv_bipush (v := (nI 36)) hx hb d_V_blockForPointer_31 (by decide) ?_
    refine lv_icmp_ge hx hb d_V_blockForPointer_33 rfl (fun hc => ?_) (fun hc => ?_)
    · rw [if_pos hc] at h
      exact w_V_blockForPointer_59 h_p0 h_p0_m h_p0_m_maps h_p0_m_tables h_p0_m_words h_p0_m_blank h_p0_m_queue h_p0_d h_p0_d_maps h_p0_d_tables h_p0_d_words h_p0_d_blank h_p0_d_queue h_p0_young h_p0_dropped h_p0_leaving F m_maps m_tables m_words m_blank m_queue d_maps d_tables d_words d_blank d_queue young dropped leaving ren r ⟨cf, hr, hlk, hK, hN, hA⟩ x1 h H locs ls (lv_sub hl [2, 3] rfl) hP hD hS
    · rw [if_neg hc] at h
      refine lv_iload hx hb d_V_blockForPointer_36 (lv_at hl 0 rfl) ?_
      obtain ⟨r38, h38, h⟩ := bd_some h
      refine wk_Si (As := [.int (t0 + (nI 1))]) (rest := []) (wc := []) (w1 := []) (wr := [(h_p0, .inr (1, [.ref h_p0_m, .ref h_p0_d, .ref h_p0_young, .ref h_p0_dropped, .ref h_p0_leaving, .int ren])), (h_p0_m, .inr (0, [.ref h_p0_m_maps, .ref h_p0_m_tables, .ref h_p0_m_words, .ref h_p0_m_blank, .ref h_p0_m_queue])), (h_p0_m_maps, .inl (cI, 48, .inl m_maps)), (h_p0_m_tables, .inl (cI, 90, .inl m_tables)), (h_p0_m_words, .inl (cI, 288, .inl m_words)), (h_p0_m_blank, .inl (cZ, 36, .inl m_blank)), (h_p0_m_queue, .inl (cI, 18, .inl m_queue)), (h_p0_d, .inr (0, [.ref h_p0_d_maps, .ref h_p0_d_tables, .ref h_p0_d_words, .ref h_p0_d_blank, .ref h_p0_d_queue])), (h_p0_d_maps, .inl (cI, 48, .inl d_maps)), (h_p0_d_tables, .inl (cI, 90, .inl d_tables)), (h_p0_d_words, .inl (cI, 288, .inl d_words)), (h_p0_d_blank, .inl (cZ, 36, .inl d_blank)), (h_p0_d_queue, .inl (cI, 18, .inl d_queue)), (h_p0_young, .inl (cI, 36, .inl young)), (h_p0_dropped, .inl (cI, 36, .inl dropped)), (h_p0_leaving, .inl (cI, 18, .inl leaving))]) (wz := (w_V cI cZ h_p0 h_p0_m h_p0_m_maps h_p0_m_tables h_p0_m_words h_p0_m_blank h_p0_m_queue h_p0_d h_p0_d_maps h_p0_d_tables h_p0_d_words h_p0_d_blank h_p0_d_queue h_p0_young h_p0_dropped h_p0_leaving m_maps m_tables m_words m_blank m_queue d_maps d_tables d_words d_blank d_queue young dropped leaving ren)) cf hK hN hA (c_V_isData l D cI cZ 0 (t0 + (nI 1)) r38 h38) k_V_155 ⟨rfl, rfl, by decide, by decide⟩ hl hP hD hS [] [0, 1, 2, 3, 4, 5, 6, 7, 8, 9, 10, 11, 12, 13, 14, 15] [0, 1, 2, 3, 4, 5, 6, 7, 8, 9, 10, 11, 12, 13, 14, 15] rfl rfl rfl (by decide) rfl rfl rfl rfl rfl (Nat.le_of_ble_eq_true rfl) rfl d_V_blockForPointer_38 (fun H locs hP hD hS => ?_)
      refine lv_if_eq hx hb d_V_blockForPointer_41 rfl (fun hc => ?_) (fun hc => ?_)
      · rw [if_pos hc] at h
        exact w_V_blockForPointer_59 h_p0 h_p0_m h_p0_m_maps h_p0_m_tables h_p0_m_words h_p0_m_blank h_p0_m_queue h_p0_d h_p0_d_maps h_p0_d_tables h_p0_d_words h_p0_d_blank h_p0_d_queue h_p0_young h_p0_dropped h_p0_leaving F m_maps m_tables m_words m_blank m_queue d_maps d_tables d_words d_blank d_queue young dropped leaving ren r ⟨cf, hr, hlk, hK, hN, hA⟩ x1 h H locs ls (lv_sub hl [2, 3] rfl) hP hD hS
      · rw [if_neg hc] at h
        refine lv_aload_n hx hb d_V_blockForPointer_44 rfl (lv_at hl 2 rfl) ?_
        refine va_get (D := D) (ci := 1) (v := .ref h_p0_m) (C := R_V) (T := F_V) (N := 6) hx hb ht in_V hown hK hP 0 rfl rfl 0 (by decide) (ht _ f_V_10) (fun _ h9 => h9) rfl d_V_blockForPointer_45 ?_
        refine lv_iload hx hb d_V_blockForPointer_48 (lv_at hl 0 rfl) ?_
        obtain ⟨r50, h50, h⟩ := bd_some h
        refine wk_Vi (As := [.int (t0 + (nI 1))]) (rest := []) (wc := (w_S cI cZ h_p0_m h_p0_m_maps h_p0_m_tables h_p0_m_words h_p0_m_blank h_p0_m_queue m_maps m_tables m_words m_blank m_queue)) (w1 := (w_S cI cZ h_p0_m h_p0_m_maps h_p0_m_tables h_p0_m_words h_p0_m_blank h_p0_m_queue m_maps m_tables m_words m_blank m_queue)) (wr := [(h_p0, .inr (1, [.ref h_p0_m, .ref h_p0_d, .ref h_p0_young, .ref h_p0_dropped, .ref h_p0_leaving, .int ren])), (h_p0_d, .inr (0, [.ref h_p0_d_maps, .ref h_p0_d_tables, .ref h_p0_d_words, .ref h_p0_d_blank, .ref h_p0_d_queue])), (h_p0_d_maps, .inl (cI, 48, .inl d_maps)), (h_p0_d_tables, .inl (cI, 90, .inl d_tables)), (h_p0_d_words, .inl (cI, 288, .inl d_words)), (h_p0_d_blank, .inl (cZ, 36, .inl d_blank)), (h_p0_d_queue, .inl (cI, 18, .inl d_queue)), (h_p0_young, .inl (cI, 36, .inl young)), (h_p0_dropped, .inl (cI, 36, .inl dropped)), (h_p0_leaving, .inl (cI, 18, .inl leaving))]) (wz := (w_V cI cZ h_p0 h_p0_m h_p0_m_maps h_p0_m_tables h_p0_m_words h_p0_m_blank h_p0_m_queue h_p0_d h_p0_d_maps h_p0_d_tables h_p0_d_words h_p0_d_blank h_p0_d_queue h_p0_young h_p0_dropped h_p0_leaving m_maps m_tables m_words m_blank m_queue d_maps d_tables d_words d_blank d_queue young dropped leaving ren)) cf hK hN hA (c_S_blockMark l D cI cZ h_p0_m h_p0_m_maps h_p0_m_tables h_p0_m_words h_p0_m_blank h_p0_m_queue m_maps m_tables m_words m_blank m_queue (t0 + (nI 1)) r50 h50) k_V_161 ⟨rfl, rfl, by decide, by decide⟩ 0 rfl rfl rfl hl hP hD hS [1, 2, 3, 4, 5, 6] [0, 7, 8, 9, 10, 11, 12, 13, 14, 15] [0, 10, 11, 12, 13, 14, 15, 1, 2, 3, 4, 5, 6, 7, 8, 9] rfl rfl rfl (by decide) rfl rfl rfl rfl rfl (Nat.le_of_ble_eq_true rfl) rfl d_V_blockForPointer_50 (fun H locs hP hD hS => ?_)
        refine lv_if_ne hx hb d_V_blockForPointer_53 rfl (fun hc => ?_) (fun hc => ?_)
        · rw [if_neg hc] at h
          exact w_V_blockForPointer_59 h_p0 h_p0_m h_p0_m_maps h_p0_m_tables h_p0_m_words h_p0_m_blank h_p0_m_queue h_p0_d h_p0_d_maps h_p0_d_tables h_p0_d_words h_p0_d_blank h_p0_d_queue h_p0_young h_p0_dropped h_p0_leaving F m_maps m_tables m_words m_blank m_queue d_maps d_tables d_words d_blank d_queue young dropped leaving ren r ⟨cf, hr, hlk, hK, hN, hA⟩ x1 h H locs ls (lv_sub hl [2, 3] rfl) hP hD hS
        · rw [if_pos hc] at h
          refine lv_iload hx hb d_V_blockForPointer_56 (lv_at hl 0 rfl) ?_
          cases h
          exact sc_iret cf hr hlk hK hP hD hS d_V_blockForPointer_58
set_option maxHeartbeats 4000000 in
set_option maxRecDepth 100000 in
theorem c_V_blockForPointer (l : Launch) (D : va_G) (cI cZ : ClassId) (h_p0 h_p0_m h_p0_m_maps h_p0_m_tables h_p0_m_words h_p0_m_blank h_p0_m_queue h_p0_d h_p0_d_maps h_p0_d_tables h_p0_d_words h_p0_d_blank h_p0_d_queue h_p0_young h_p0_dropped h_p0_leaving : Nat) (F : Nat) (m_maps : (Nat → Int32)) (m_tables : (Nat → Int32)) (m_words : (Nat → Int32)) (m_blank : (Nat → Int32)) (m_queue : (Nat → Int32)) (d_maps : (Nat → Int32)) (d_tables : (Nat → Int32)) (d_words : (Nat → Int32)) (d_blank : (Nat → Int32)) (d_queue : (Nat → Int32)) (young : (Nat → Int32)) (dropped : (Nat → Int32)) (leaving : (Nat → Int32)) (ren : Int32) (x1 : Int32) (x2 : Int32) (r : Int32) (h : s_V_blockForPointer F m_maps m_tables x1 x2 = some r) : sc_i l y_V_blockForPointer (o_V_blockForPointer :: wA) rm_V_blockForPointer D cI cZ [.ref h_p0, .int x1, .int x2] (w_V cI cZ h_p0 h_p0_m h_p0_m_maps h_p0_m_tables h_p0_m_words h_p0_m_blank h_p0_m_queue h_p0_d h_p0_d_maps h_p0_d_tables h_p0_d_words h_p0_d_blank h_p0_d_queue h_p0_young h_p0_dropped h_p0_leaving m_maps m_tables m_words m_blank m_queue d_maps d_tables d_words d_blank d_queue young dropped leaving ren) (w_V cI cZ h_p0 h_p0_m h_p0_m_maps h_p0_m_tables h_p0_m_words h_p0_m_blank h_p0_m_queue h_p0_d h_p0_d_maps h_p0_d_tables h_p0_d_words h_p0_d_blank h_p0_d_queue h_p0_young h_p0_dropped h_p0_leaving m_maps m_tables m_words m_blank m_queue d_maps d_tables d_words d_blank d_queue young dropped leaving ren) r := by
  refine sc_i_of (cc := b_V_blockForPointer) (maxL := 5) (ret := (some .int)) (by decide) rfl (Nat.le_of_ble_eq_true rfl) ?_
  intro p e s m below meth c A cf hr hlk hK hN hA H locs ls hl hP hD hS
  have hx := cf.1
  have hb := cf.2.1
  have hown := cf.2.2.2.1
  have ht : ∀ w ∈ wA, w.before _ s = true := fun w h => cf.2.2.2.2 w (List.mem_cons_of_mem _ h)
  unfold s_V_blockForPointer at h
  have hl : lv_has ls 5 [(0, .ref h_p0), (1, .int x1), (2, .int x2)] := hl
  refine lv_iload_n hx hb d_V_blockForPointer_0 rfl (lv_at hl 2 rfl) ?_
  refine lv_if_le hx hb d_V_blockForPointer_1 rfl (fun hc => ?_) (fun hc => ?_)
  · rw [if_pos hc] at h
    refine lv_iconst (v := (nI 0)) hx hb d_V_blockForPointer_18 (by decide) ?_
    exact w_V_blockForPointer_19 h_p0 h_p0_m h_p0_m_maps h_p0_m_tables h_p0_m_words h_p0_m_blank h_p0_m_queue h_p0_d h_p0_d_maps h_p0_d_tables h_p0_d_words h_p0_d_blank h_p0_d_queue h_p0_young h_p0_dropped h_p0_leaving F m_maps m_tables m_words m_blank m_queue d_maps d_tables d_words d_blank d_queue young dropped leaving ren r ⟨cf, hr, hlk, hK, hN, hA⟩ x1 (nI 0) h H locs ls (lv_sub hl [0, 1] rfl) hP hD hS
  · rw [if_neg hc] at h
    refine lv_aload_n hx hb d_V_blockForPointer_4 rfl (lv_at hl 0 rfl) ?_
    refine va_get (D := D) (ci := 1) (v := .ref h_p0_m) (C := R_V) (T := F_V) (N := 6) hx hb ht in_V hown hK hP 0 rfl rfl 0 (by decide) (ht _ f_V_10) (fun _ h9 => h9) rfl d_V_blockForPointer_5 ?_
    refine lv_iload_n hx hb d_V_blockForPointer_8 rfl (lv_at hl 1 rfl) ?_
    refine lv_iload_n hx hb d_V_blockForPointer_9 rfl (lv_at hl 2 rfl) ?_
    refine lv_iconst (v := (nI 1)) hx hb d_V_blockForPointer_10 (by decide) ?_
    refine lv_isub hx hb d_V_blockForPointer_11 ?_
    obtain ⟨r12, h12, h⟩ := bd_some h
    refine wk_Vi (As := [.int x1, .int (x2 - (nI 1))]) (rest := []) (wc := (w_S cI cZ h_p0_m h_p0_m_maps h_p0_m_tables h_p0_m_words h_p0_m_blank h_p0_m_queue m_maps m_tables m_words m_blank m_queue)) (w1 := (w_S cI cZ h_p0_m h_p0_m_maps h_p0_m_tables h_p0_m_words h_p0_m_blank h_p0_m_queue m_maps m_tables m_words m_blank m_queue)) (wr := [(h_p0, .inr (1, [.ref h_p0_m, .ref h_p0_d, .ref h_p0_young, .ref h_p0_dropped, .ref h_p0_leaving, .int ren])), (h_p0_d, .inr (0, [.ref h_p0_d_maps, .ref h_p0_d_tables, .ref h_p0_d_words, .ref h_p0_d_blank, .ref h_p0_d_queue])), (h_p0_d_maps, .inl (cI, 48, .inl d_maps)), (h_p0_d_tables, .inl (cI, 90, .inl d_tables)), (h_p0_d_words, .inl (cI, 288, .inl d_words)), (h_p0_d_blank, .inl (cZ, 36, .inl d_blank)), (h_p0_d_queue, .inl (cI, 18, .inl d_queue)), (h_p0_young, .inl (cI, 36, .inl young)), (h_p0_dropped, .inl (cI, 36, .inl dropped)), (h_p0_leaving, .inl (cI, 18, .inl leaving))]) (wz := (w_V cI cZ h_p0 h_p0_m h_p0_m_maps h_p0_m_tables h_p0_m_words h_p0_m_blank h_p0_m_queue h_p0_d h_p0_d_maps h_p0_d_tables h_p0_d_words h_p0_d_blank h_p0_d_queue h_p0_young h_p0_dropped h_p0_leaving m_maps m_tables m_words m_blank m_queue d_maps d_tables d_words d_blank d_queue young dropped leaving ren)) cf hK hN hA (c_S_pointer l D cI cZ h_p0_m h_p0_m_maps h_p0_m_tables h_p0_m_words h_p0_m_blank h_p0_m_queue m_maps m_tables m_words m_blank m_queue x1 (x2 - (nI 1)) r12 h12) k_V_114 ⟨rfl, rfl, by decide, by decide⟩ 0 rfl rfl rfl hl hP hD hS [1, 2, 3, 4, 5, 6] [0, 7, 8, 9, 10, 11, 12, 13, 14, 15] [0, 10, 11, 12, 13, 14, 15, 1, 2, 3, 4, 5, 6, 7, 8, 9] rfl rfl rfl (by decide) rfl rfl rfl rfl rfl (Nat.le_of_ble_eq_true rfl) rfl d_V_blockForPointer_12 (fun H locs hP hD hS => ?_)
    refine lv_goto hx hb d_V_blockForPointer_15 rfl ?_
    exact w_V_blockForPointer_19 h_p0 h_p0_m h_p0_m_maps h_p0_m_tables h_p0_m_words h_p0_m_blank h_p0_m_queue h_p0_d h_p0_d_maps h_p0_d_tables h_p0_d_words h_p0_d_blank h_p0_d_queue h_p0_young h_p0_dropped h_p0_leaving F m_maps m_tables m_words m_blank m_queue d_maps d_tables d_words d_blank d_queue young dropped leaving ren r ⟨cf, hr, hlk, hK, hN, hA⟩ x1 r12 h H locs ls (lv_sub hl [0, 1] rfl) hP hD hS
set_option maxHeartbeats 4000000 in
set_option maxRecDepth 100000 in
theorem w_V_isCell_26 {p : Program} {l : Launch} {e : Env} {s : State} {m : MethodId} {args : Array Value} {below : List Frame} {meth : Method} {c : Code} {D : va_G} {cI cZ : ClassId} {A : Nat → Prop} (z : Nat) (r : Int32) (cx : cx_ok p s m args meth c b_V_isCell 2 o_V_isCell "OrderedVolume" (some .boolean) D cI cZ A) : s_V_isCell_26 = some r → wk_G p l e rm_V_isCell s m args below meth c (sc_Qi below args s D cI cZ A [] r) D A 2 26 [] [] [] := by
  obtain ⟨cf, hr, hlk, hK, hN, hA⟩ := cx
  have hx := cf.1
  have hb := cf.2.1
  have hown := cf.2.2.2.1
  have ht : ∀ w ∈ wA, w.before args s = true := fun w h => cf.2.2.2.2 w (List.mem_cons_of_mem _ h)
  intro  h H locs ls hl hP hD hS
  unfold s_V_isCell_26 at h
  refine lv_iconst (v := (nI 0)) hx hb d_V_isCell_26 (by decide) ?_
  have hz : ((nI 0) : Int32) = 0 ∨ ((nI 0) : Int32) = 1 := by decide
  cases h
  exact sc_zret cf hr hlk hz hK hP hD hS d_V_isCell_27
set_option maxHeartbeats 4000000 in
set_option maxRecDepth 100000 in
theorem c_V_isCell (l : Launch) (D : va_G) (cI cZ : ClassId) (z : Nat) (x0 : Int32) (x1 : Int32) (r : Int32) (h : s_V_isCell x0 x1 = some r) : sc_i l y_V_isCell (o_V_isCell :: wA) rm_V_isCell D cI cZ [.int x0, .int x1] [] [] r := by
  refine sc_i_of (cc := b_V_isCell) (maxL := 2) (ret := (some .boolean)) (by decide) rfl (Nat.le_of_ble_eq_true rfl) ?_
  intro p e s m below meth c A cf hr hlk hK hN hA H locs ls hl hP hD hS
  have hx := cf.1
  have hb := cf.2.1
  have hown := cf.2.2.2.1
  have ht : ∀ w ∈ wA, w.before _ s = true := fun w h => cf.2.2.2.2 w (List.mem_cons_of_mem _ h)
  unfold s_V_isCell at h
  have hl : lv_has ls 2 [(0, .int x0), (1, .int x1)] := hl
  refine lv_iload_n hx hb d_V_isCell_0 rfl (lv_at hl 0 rfl) ?_
  refine lv_if_lt hx hb d_V_isCell_1 rfl (fun hc => ?_) (fun hc => ?_)
  · rw [if_pos hc] at h
    exact w_V_isCell_26 0 r ⟨cf, hr, hlk, hK, hN, hA⟩ h H locs ls (lv_sub hl [] rfl) hP hD hS
  · rw [if_neg hc] at h
    refine lv_iload_n hx hb d_V_isCell_4 rfl (lv_at hl 0 rfl) ?_
    refine lv_bipush (v := (nI 36)) hx hb d_V_isCell_5 (by decide) ?_
    refine lv_icmp_ge hx hb d_V_isCell_7 rfl (fun hc => ?_) (fun hc => ?_)
    · rw [if_pos hc] at h
      exact w_V_isCell_26 0 r ⟨cf, hr, hlk, hK, hN, hA⟩ h H locs ls (lv_sub hl [] rfl) hP hD hS
    · rw [if_neg hc] at h
      refine lv_iload_n hx hb d_V_isCell_10 rfl (lv_at hl 1 rfl) ?_
      refine lv_if_lt hx hb d_V_isCell_11 rfl (fun hc => ?_) (fun hc => ?_)
      · rw [if_pos hc] at h
        exact w_V_isCell_26 0 r ⟨cf, hr, hlk, hK, hN, hA⟩ h H locs ls (lv_sub hl [] rfl) hP hD hS
      · rw [if_neg hc] at h
        refine lv_iload_n hx hb d_V_isCell_14 rfl (lv_at hl 1 rfl) ?_
        refine lv_iload_n hx hb d_V_isCell_15 rfl (lv_at hl 0 rfl) ?_
        obtain ⟨r16, h16, h⟩ := bd_some h
        refine wk_Si (As := [.int x0]) (rest := [.int x1]) (wc := []) (w1 := []) (wr := []) (wz := []) cf hK hN hA (c_V_cellCount l D cI cZ 0 x0 r16 h16) k_V_191 ⟨rfl, rfl, by decide, by decide⟩ hl hP hD hS [] [] [] rfl rfl rfl (by decide) rfl rfl rfl rfl rfl (Nat.le_of_ble_eq_true rfl) rfl d_V_isCell_16 (fun H locs hP hD hS => ?_)
        refine lv_icmp_ge hx hb d_V_isCell_19 rfl (fun hc => ?_) (fun hc => ?_)
        · rw [if_pos hc] at h
          exact w_V_isCell_26 0 r ⟨cf, hr, hlk, hK, hN, hA⟩ h H locs ls (lv_sub hl [] rfl) hP hD hS
        · rw [if_neg hc] at h
          refine lv_iconst (v := (nI 1)) hx hb d_V_isCell_22 (by decide) ?_
          refine lv_goto hx hb d_V_isCell_23 rfl ?_
          have hz : ((nI 1) : Int32) = 0 ∨ ((nI 1) : Int32) = 1 := by decide
          cases h
          exact sc_zret cf hr hlk hz hK hP hD hS d_V_isCell_27
set_option maxHeartbeats 4000000 in
set_option maxRecDepth 100000 in
theorem c_V_cached (l : Launch) (D : va_G) (cI cZ : ClassId) (h_p0 h_p0_m h_p0_m_maps h_p0_m_tables h_p0_m_words h_p0_m_blank h_p0_m_queue h_p0_d h_p0_d_maps h_p0_d_tables h_p0_d_words h_p0_d_blank h_p0_d_queue h_p0_young h_p0_dropped h_p0_leaving : Nat) (m_maps : (Nat → Int32)) (m_tables : (Nat → Int32)) (m_words : (Nat → Int32)) (m_blank : (Nat → Int32)) (m_queue : (Nat → Int32)) (d_maps : (Nat → Int32)) (d_tables : (Nat → Int32)) (d_words : (Nat → Int32)) (d_blank : (Nat → Int32)) (d_queue : (Nat → Int32)) (young : (Nat → Int32)) (dropped : (Nat → Int32)) (leaving : (Nat → Int32)) (ren : Int32) (x1 : Int32) (x2 : Int32) (r : Int32) (h : s_V_cached m_maps m_tables m_words x1 x2 = some r) : sc_i l y_V_cached (o_V_cached :: wA) rm_V_cached D cI cZ [.ref h_p0, .int x1, .int x2] (w_V cI cZ h_p0 h_p0_m h_p0_m_maps h_p0_m_tables h_p0_m_words h_p0_m_blank h_p0_m_queue h_p0_d h_p0_d_maps h_p0_d_tables h_p0_d_words h_p0_d_blank h_p0_d_queue h_p0_young h_p0_dropped h_p0_leaving m_maps m_tables m_words m_blank m_queue d_maps d_tables d_words d_blank d_queue young dropped leaving ren) (w_V cI cZ h_p0 h_p0_m h_p0_m_maps h_p0_m_tables h_p0_m_words h_p0_m_blank h_p0_m_queue h_p0_d h_p0_d_maps h_p0_d_tables h_p0_d_words h_p0_d_blank h_p0_d_queue h_p0_young h_p0_dropped h_p0_leaving m_maps m_tables m_words m_blank m_queue d_maps d_tables d_words d_blank d_queue young dropped leaving ren) r := by
  refine sc_i_of (cc := b_V_cached) (maxL := 3) (ret := (some .int)) (by decide) rfl (Nat.le_of_ble_eq_true rfl) ?_
  intro p e s m below meth c A cf hr hlk hK hN hA H locs ls hl hP hD hS
  have hx := cf.1
  have hb := cf.2.1
  have hown := cf.2.2.2.1
  have ht : ∀ w ∈ wA, w.before _ s = true := fun w h => cf.2.2.2.2 w (List.mem_cons_of_mem _ h)
  unfold s_V_cached at h
  have hl : lv_has ls 3 [(0, .ref h_p0), (1, .int x1), (2, .int x2)] := hl
  refine lv_iload_n hx hb d_V_cached_0 rfl (lv_at hl 1 rfl) ?_
  refine lv_iload_n hx hb d_V_cached_1 rfl (lv_at hl 2 rfl) ?_
  obtain ⟨r2, h2, h⟩ := bd_some h
  refine wk_Si (As := [.int x1, .int x2]) (rest := []) (wc := []) (w1 := []) (wr := [(h_p0, .inr (1, [.ref h_p0_m, .ref h_p0_d, .ref h_p0_young, .ref h_p0_dropped, .ref h_p0_leaving, .int ren])), (h_p0_m, .inr (0, [.ref h_p0_m_maps, .ref h_p0_m_tables, .ref h_p0_m_words, .ref h_p0_m_blank, .ref h_p0_m_queue])), (h_p0_m_maps, .inl (cI, 48, .inl m_maps)), (h_p0_m_tables, .inl (cI, 90, .inl m_tables)), (h_p0_m_words, .inl (cI, 288, .inl m_words)), (h_p0_m_blank, .inl (cZ, 36, .inl m_blank)), (h_p0_m_queue, .inl (cI, 18, .inl m_queue)), (h_p0_d, .inr (0, [.ref h_p0_d_maps, .ref h_p0_d_tables, .ref h_p0_d_words, .ref h_p0_d_blank, .ref h_p0_d_queue])), (h_p0_d_maps, .inl (cI, 48, .inl d_maps)), (h_p0_d_tables, .inl (cI, 90, .inl d_tables)), (h_p0_d_words, .inl (cI, 288, .inl d_words)), (h_p0_d_blank, .inl (cZ, 36, .inl d_blank)), (h_p0_d_queue, .inl (cI, 18, .inl d_queue)), (h_p0_young, .inl (cI, 36, .inl young)), (h_p0_dropped, .inl (cI, 36, .inl dropped)), (h_p0_leaving, .inl (cI, 18, .inl leaving))]) (wz := (w_V cI cZ h_p0 h_p0_m h_p0_m_maps h_p0_m_tables h_p0_m_words h_p0_m_blank h_p0_m_queue h_p0_d h_p0_d_maps h_p0_d_tables h_p0_d_words h_p0_d_blank h_p0_d_queue h_p0_young h_p0_dropped h_p0_leaving m_maps m_tables m_words m_blank m_queue d_maps d_tables d_words d_blank d_queue young dropped leaving ren)) cf hK hN hA (c_V_isCell l D cI cZ 0 x1 x2 r2 h2) k_V_185 ⟨rfl, rfl, by decide, by decide⟩ hl hP hD hS [] [0, 1, 2, 3, 4, 5, 6, 7, 8, 9, 10, 11, 12, 13, 14, 15] [0, 1, 2, 3, 4, 5, 6, 7, 8, 9, 10, 11, 12, 13, 14, 15] rfl rfl rfl (by decide) rfl rfl rfl rfl rfl (Nat.le_of_ble_eq_true rfl) rfl d_V_cached_2 (fun H locs hP hD hS => ?_)
  refine lv_if_eq hx hb d_V_cached_5 rfl (fun hc => ?_) (fun hc => ?_)
  · rw [if_pos hc] at h
    refine lv_iconst (v := (nI 0)) hx hb d_V_cached_20 (by decide) ?_
    cases h
    exact sc_iret cf hr hlk hK hP hD hS d_V_cached_21
  · rw [if_neg hc] at h
    refine lv_aload_n hx hb d_V_cached_8 rfl (lv_at hl 0 rfl) ?_
    refine va_get (D := D) (ci := 1) (v := .ref h_p0_m) (C := R_V) (T := F_V) (N := 6) hx hb ht in_V hown hK hP 0 rfl rfl 0 (by decide) (ht _ f_V_10) (fun _ h9 => h9) rfl d_V_cached_9 ?_
    refine lv_iload_n hx hb d_V_cached_12 rfl (lv_at hl 1 rfl) ?_
    refine lv_iload_n hx hb d_V_cached_13 rfl (lv_at hl 2 rfl) ?_
    obtain ⟨r14, h14, h⟩ := bd_some h
    refine wk_Vi (As := [.int x1, .int x2]) (rest := []) (wc := (w_S cI cZ h_p0_m h_p0_m_maps h_p0_m_tables h_p0_m_words h_p0_m_blank h_p0_m_queue m_maps m_tables m_words m_blank m_queue)) (w1 := (w_S cI cZ h_p0_m h_p0_m_maps h_p0_m_tables h_p0_m_words h_p0_m_blank h_p0_m_queue m_maps m_tables m_words m_blank m_queue)) (wr := [(h_p0, .inr (1, [.ref h_p0_m, .ref h_p0_d, .ref h_p0_young, .ref h_p0_dropped, .ref h_p0_leaving, .int ren])), (h_p0_d, .inr (0, [.ref h_p0_d_maps, .ref h_p0_d_tables, .ref h_p0_d_words, .ref h_p0_d_blank, .ref h_p0_d_queue])), (h_p0_d_maps, .inl (cI, 48, .inl d_maps)), (h_p0_d_tables, .inl (cI, 90, .inl d_tables)), (h_p0_d_words, .inl (cI, 288, .inl d_words)), (h_p0_d_blank, .inl (cZ, 36, .inl d_blank)), (h_p0_d_queue, .inl (cI, 18, .inl d_queue)), (h_p0_young, .inl (cI, 36, .inl young)), (h_p0_dropped, .inl (cI, 36, .inl dropped)), (h_p0_leaving, .inl (cI, 18, .inl leaving))]) (wz := (w_V cI cZ h_p0 h_p0_m h_p0_m_maps h_p0_m_tables h_p0_m_words h_p0_m_blank h_p0_m_queue h_p0_d h_p0_d_maps h_p0_d_tables h_p0_d_words h_p0_d_blank h_p0_d_queue h_p0_young h_p0_dropped h_p0_leaving m_maps m_tables m_words m_blank m_queue d_maps d_tables d_words d_blank d_queue young dropped leaving ren)) cf hK hN hA (c_S_cell l D cI cZ h_p0_m h_p0_m_maps h_p0_m_tables h_p0_m_words h_p0_m_blank h_p0_m_queue m_maps m_tables m_words m_blank m_queue x1 x2 r14 h14) k_V_188 ⟨rfl, rfl, by decide, by decide⟩ 0 rfl rfl rfl hl hP hD hS [1, 2, 3, 4, 5, 6] [0, 7, 8, 9, 10, 11, 12, 13, 14, 15] [0, 10, 11, 12, 13, 14, 15, 1, 2, 3, 4, 5, 6, 7, 8, 9] rfl rfl rfl (by decide) rfl rfl rfl rfl rfl (Nat.le_of_ble_eq_true rfl) rfl d_V_cached_14 (fun H locs hP hD hS => ?_)
    refine lv_goto hx hb d_V_cached_17 rfl ?_
    cases h
    exact sc_iret cf hr hlk hK hP hD hS d_V_cached_21
set_option maxHeartbeats 4000000 in
set_option maxRecDepth 100000 in
theorem w_V_crash_60 {p : Program} {l : Launch} {e : Env} {s : State} {m : MethodId} {args : Array Value} {below : List Frame} {meth : Method} {c : Code} {D : va_G} {cI cZ : ClassId} {A : Nat → Prop} (h_p0 h_p0_m h_p0_m_maps h_p0_m_tables h_p0_m_words h_p0_m_blank h_p0_m_queue h_p0_d h_p0_d_maps h_p0_d_tables h_p0_d_words h_p0_d_blank h_p0_d_queue h_p0_young h_p0_dropped h_p0_leaving : Nat) (F : Nat) (m_blank : (Nat → Int32)) (m_queue : (Nat → Int32)) (d_maps : (Nat → Int32)) (d_tables : (Nat → Int32)) (d_words : (Nat → Int32)) (d_queue : (Nat → Int32)) (ren : Int32) (m_maps' : (Nat → Int32)) (m_tables' : (Nat → Int32)) (m_words' : (Nat → Int32)) (d_blank' : (Nat → Int32)) (young' : (Nat → Int32)) (dropped' : (Nat → Int32)) (leaving' : (Nat → Int32)) (r : Int32) (cx : cx_ok p s m args meth c b_V_crash 2 o_V_crash "OrderedVolume" (some .boolean) D cI cZ A) : ∀ (n : Nat) (x1 : Int32) (m_maps : (Nat → Int32)) (m_tables : (Nat → Int32)) (m_words : (Nat → Int32)) (d_blank : (Nat → Int32)) (young : (Nat → Int32)) (dropped : (Nat → Int32)) (leaving : (Nat → Int32)), s_V_crash_60 F d_maps d_tables d_words ren n x1 m_maps m_tables m_words d_blank young dropped leaving = some (r, m_maps', m_tables', m_words', d_blank', young', dropped', leaving') → wk_G p l e rm_V_crash s m args below meth c (sc_Qi below args s D cI cZ A (w_V cI cZ h_p0 h_p0_m h_p0_m_maps h_p0_m_tables h_p0_m_words h_p0_m_blank h_p0_m_queue h_p0_d h_p0_d_maps h_p0_d_tables h_p0_d_words h_p0_d_blank h_p0_d_queue h_p0_young h_p0_dropped h_p0_leaving (m_maps') (m_tables') (m_words') m_blank m_queue d_maps d_tables d_words (d_blank') d_queue (young') (dropped') (leaving') ren) r) D A 2 60 [] [(0, .ref h_p0), (1, .int x1)] (w_V cI cZ h_p0 h_p0_m h_p0_m_maps h_p0_m_tables h_p0_m_words h_p0_m_blank h_p0_m_queue h_p0_d h_p0_d_maps h_p0_d_tables h_p0_d_words h_p0_d_blank h_p0_d_queue h_p0_young h_p0_dropped h_p0_leaving m_maps m_tables m_words m_blank m_queue d_maps d_tables d_words d_blank d_queue young dropped leaving ren) := by
  obtain ⟨cf, hr, hlk, hK, hN, hA⟩ := cx
  have hx := cf.1
  have hb := cf.2.1
  have hown := cf.2.2.2.1
  have ht : ∀ w ∈ wA, w.before args s = true := fun w h => cf.2.2.2.2 w (List.mem_cons_of_mem _ h)
  intro n
  induction n with
  | zero => intro x1 m_maps m_tables m_words d_blank young dropped leaving h; cases (show (none : Option (Int32 × (Nat → Int32) × (Nat → Int32) × (Nat → Int32) × (Nat → Int32) × (Nat → Int32) × (Nat → Int32) × (Nat → Int32))) = some _ from h)
  | succ n ih =>
    intro x1 m_maps m_tables m_words d_blank young dropped leaving h H locs ls hl hP hD hS
    unfold s_V_crash_60 at h
    refine lv_iload_n hx hb d_V_crash_60 rfl (lv_at hl 1 rfl) ?_
    refine lv_bipush (v := (nI 18)) hx hb d_V_crash_61 (by decide) ?_
    refine lv_icmp_ge hx hb d_V_crash_63 rfl (fun hc => ?_) (fun hc => ?_)
    · rw [if_pos hc] at h
      refine lv_iconst (v := (nI 1)) hx hb d_V_crash_79 (by decide) ?_
      have hz : ((nI 1) : Int32) = 0 ∨ ((nI 1) : Int32) = 1 := by decide
      cases h
      exact sc_zret cf hr hlk hz hK hP hD hS d_V_crash_80
    · rw [if_neg hc] at h
      refine lv_aload_n hx hb d_V_crash_66 rfl (lv_at hl 0 rfl) ?_
      refine va_get (D := D) (ci := 1) (v := .ref h_p0_leaving) (C := R_V) (T := F_V) (N := 6) hx hb ht in_V hown hK hP 0 rfl rfl 4 (by decide) (ht _ f_V_26) (fun _ h9 => h9) rfl d_V_crash_67 ?_
      refine lv_iload_n hx hb d_V_crash_70 rfl (lv_at hl 1 rfl) ?_
      refine lv_iconst (v := (nI 0)) hx hb d_V_crash_71 (by decide) ?_
      obtain ⟨hin, h⟩ := ga_some h
      refine va_iast hx hb hK hP hD hS 15 0 rfl rfl hin d_V_crash_72 (fun H locs hP hD hS => ?_)
      have hP : va_P D clA (w_V cI cZ h_p0 h_p0_m h_p0_m_maps h_p0_m_tables h_p0_m_words h_p0_m_blank h_p0_m_queue h_p0_d h_p0_d_maps h_p0_d_tables h_p0_d_words h_p0_d_blank h_p0_d_queue h_p0_young h_p0_dropped h_p0_leaving m_maps m_tables m_words m_blank m_queue d_maps d_tables d_words d_blank d_queue young dropped (upd leaving x1.toNatClampNeg (nI 0)) ren) H := hP
      have hD : va_D A (w_V cI cZ h_p0 h_p0_m h_p0_m_maps h_p0_m_tables h_p0_m_words h_p0_m_blank h_p0_m_queue h_p0_d h_p0_d_maps h_p0_d_tables h_p0_d_words h_p0_d_blank h_p0_d_queue h_p0_young h_p0_dropped h_p0_leaving m_maps m_tables m_words m_blank m_queue d_maps d_tables d_words d_blank d_queue young dropped (upd leaving x1.toNatClampNeg (nI 0)) ren) := hD
      refine lv_iinc (k := 1) (v := (x1 + (nI 1))) (lv' := [(1, .int (x1 + (nI 1))), (0, .ref h_p0)]) hx hb d_V_crash_73 hl rfl rfl (by decide) rfl (fun ls hl => ?_)
      refine lv_goto hx hb d_V_crash_76 rfl ?_
      exact ih (x1 + (nI 1)) m_maps m_tables m_words d_blank young dropped (upd leaving x1.toNatClampNeg (nI 0)) h H locs ls (lv_sub hl [1, 0] rfl) hP hD hS
set_option maxHeartbeats 4000000 in
set_option maxRecDepth 100000 in
theorem w_V_crash_11 {p : Program} {l : Launch} {e : Env} {s : State} {m : MethodId} {args : Array Value} {below : List Frame} {meth : Method} {c : Code} {D : va_G} {cI cZ : ClassId} {A : Nat → Prop} (h_p0 h_p0_m h_p0_m_maps h_p0_m_tables h_p0_m_words h_p0_m_blank h_p0_m_queue h_p0_d h_p0_d_maps h_p0_d_tables h_p0_d_words h_p0_d_blank h_p0_d_queue h_p0_young h_p0_dropped h_p0_leaving : Nat) (F : Nat) (m_blank : (Nat → Int32)) (m_queue : (Nat → Int32)) (d_maps : (Nat → Int32)) (d_tables : (Nat → Int32)) (d_words : (Nat → Int32)) (d_queue : (Nat → Int32)) (ren : Int32) (m_maps' : (Nat → Int32)) (m_tables' : (Nat → Int32)) (m_words' : (Nat → Int32)) (d_blank' : (Nat → Int32)) (young' : (Nat → Int32)) (dropped' : (Nat → Int32)) (leaving' : (Nat → Int32)) (r : Int32) (cx : cx_ok p s m args meth c b_V_crash 2 o_V_crash "OrderedVolume" (some .boolean) D cI cZ A) : ∀ (n : Nat) (x1 : Int32) (m_maps : (Nat → Int32)) (m_tables : (Nat → Int32)) (m_words : (Nat → Int32)) (d_blank : (Nat → Int32)) (young : (Nat → Int32)) (dropped : (Nat → Int32)) (leaving : (Nat → Int32)), s_V_crash_11 F d_maps d_tables d_words ren n x1 m_maps m_tables m_words d_blank young dropped leaving = some (r, m_maps', m_tables', m_words', d_blank', young', dropped', leaving') → wk_G p l e rm_V_crash s m args below meth c (sc_Qi below args s D cI cZ A (w_V cI cZ h_p0 h_p0_m h_p0_m_maps h_p0_m_tables h_p0_m_words h_p0_m_blank h_p0_m_queue h_p0_d h_p0_d_maps h_p0_d_tables h_p0_d_words h_p0_d_blank h_p0_d_queue h_p0_young h_p0_dropped h_p0_leaving (m_maps') (m_tables') (m_words') m_blank m_queue d_maps d_tables d_words (d_blank') d_queue (young') (dropped') (leaving') ren) r) D A 2 11 [] [(0, .ref h_p0), (1, .int x1)] (w_V cI cZ h_p0 h_p0_m h_p0_m_maps h_p0_m_tables h_p0_m_words h_p0_m_blank h_p0_m_queue h_p0_d h_p0_d_maps h_p0_d_tables h_p0_d_words h_p0_d_blank h_p0_d_queue h_p0_young h_p0_dropped h_p0_leaving m_maps m_tables m_words m_blank m_queue d_maps d_tables d_words d_blank d_queue young dropped leaving ren) := by
  obtain ⟨cf, hr, hlk, hK, hN, hA⟩ := cx
  have hx := cf.1
  have hb := cf.2.1
  have hown := cf.2.2.2.1
  have ht : ∀ w ∈ wA, w.before args s = true := fun w h => cf.2.2.2.2 w (List.mem_cons_of_mem _ h)
  intro n
  induction n with
  | zero => intro x1 m_maps m_tables m_words d_blank young dropped leaving h; cases (show (none : Option (Int32 × (Nat → Int32) × (Nat → Int32) × (Nat → Int32) × (Nat → Int32) × (Nat → Int32) × (Nat → Int32) × (Nat → Int32))) = some _ from h)
  | succ n ih =>
    intro x1 m_maps m_tables m_words d_blank young dropped leaving h H locs ls hl hP hD hS
    unfold s_V_crash_11 at h
    refine lv_iload_n hx hb d_V_crash_11 rfl (lv_at hl 1 rfl) ?_
    refine lv_bipush (v := (nI 36)) hx hb d_V_crash_12 (by decide) ?_
    refine lv_icmp_ge hx hb d_V_crash_14 rfl (fun hc => ?_) (fun hc => ?_)
    · rw [if_pos hc] at h
      refine lv_iconst (v := (nI 0)) hx hb d_V_crash_58 (by decide) ?_
      refine lv_istore_n (lv' := [(1, .int (nI 0)), (0, .ref h_p0)]) hx hb d_V_crash_59 rfl hl (by decide) rfl (fun ls hl => ?_)
      exact w_V_crash_60 h_p0 h_p0_m h_p0_m_maps h_p0_m_tables h_p0_m_words h_p0_m_blank h_p0_m_queue h_p0_d h_p0_d_maps h_p0_d_tables h_p0_d_words h_p0_d_blank h_p0_d_queue h_p0_young h_p0_dropped h_p0_leaving F m_blank m_queue d_maps d_tables d_words d_queue ren m_maps' m_tables' m_words' d_blank' young' dropped' leaving' r ⟨cf, hr, hlk, hK, hN, hA⟩ F (nI 0) m_maps m_tables m_words d_blank young dropped leaving h H locs ls (lv_sub hl [1, 0] rfl) hP hD hS
    · rw [if_neg hc] at h
      refine lv_aload_n hx hb d_V_crash_17 rfl (lv_at hl 0 rfl) ?_
      refine va_get (D := D) (ci := 1) (v := .ref h_p0_m) (C := R_V) (T := F_V) (N := 6) hx hb ht in_V hown hK hP 0 rfl rfl 0 (by decide) (ht _ f_V_10) (fun _ h9 => h9) rfl d_V_crash_18 ?_
      refine lv_aload_n hx hb d_V_crash_21 rfl (lv_at hl 0 rfl) ?_
      refine va_get (D := D) (ci := 1) (v := .ref h_p0_d) (C := R_V) (T := F_V) (N := 6) hx hb ht in_V hown hK hP 0 rfl rfl 1 (by decide) (ht _ f_V_16) (fun _ h9 => h9) rfl d_V_crash_22 ?_
      refine lv_iload_n hx hb d_V_crash_25 rfl (lv_at hl 1 rfl) ?_
      obtain ⟨⟨m_maps_26, m_tables_26, m_words_26⟩, h26, h⟩ := bd_some h
      dsimp only at h
      refine wk_Vv (As := [.ref h_p0_d, .int x1]) (rest := []) (wc := (w_S cI cZ h_p0_m h_p0_m_maps h_p0_m_tables h_p0_m_words h_p0_m_blank h_p0_m_queue m_maps m_tables m_words m_blank m_queue) ++ (w_S cI cZ h_p0_d h_p0_d_maps h_p0_d_tables h_p0_d_words h_p0_d_blank h_p0_d_queue d_maps d_tables d_words d_blank d_queue)) (w1 := (w_S cI cZ h_p0_m h_p0_m_maps h_p0_m_tables h_p0_m_words h_p0_m_blank h_p0_m_queue m_maps_26 m_tables_26 m_words_26 m_blank m_queue) ++ (w_S cI cZ h_p0_d h_p0_d_maps h_p0_d_tables h_p0_d_words h_p0_d_blank h_p0_d_queue d_maps d_tables d_words d_blank d_queue)) (wr := [(h_p0, .inr (1, [.ref h_p0_m, .ref h_p0_d, .ref h_p0_young, .ref h_p0_dropped, .ref h_p0_leaving, .int ren])), (h_p0_young, .inl (cI, 36, .inl young)), (h_p0_dropped, .inl (cI, 36, .inl dropped)), (h_p0_leaving, .inl (cI, 18, .inl leaving))]) (wz := (w_V cI cZ h_p0 h_p0_m h_p0_m_maps h_p0_m_tables h_p0_m_words h_p0_m_blank h_p0_m_queue h_p0_d h_p0_d_maps h_p0_d_tables h_p0_d_words h_p0_d_blank h_p0_d_queue h_p0_young h_p0_dropped h_p0_leaving m_maps_26 m_tables_26 m_words_26 m_blank m_queue d_maps d_tables d_words d_blank d_queue young dropped leaving ren)) cf hK hN hA (c_S_copyBlock l D cI cZ h_p0_m h_p0_m_maps h_p0_m_tables h_p0_m_words h_p0_m_blank h_p0_m_queue h_p0_d h_p0_d_maps h_p0_d_tables h_p0_d_words h_p0_d_blank h_p0_d_queue F m_maps m_tables m_words m_blank m_queue d_maps d_tables d_words d_blank d_queue m_maps_26 m_tables_26 m_words_26 x1 h26) k_V_135 ⟨rfl, rfl, by decide, by decide⟩ 0 rfl rfl rfl hl hP hD hS [1, 2, 3, 4, 5, 6, 7, 8, 9, 10, 11, 12] [0, 13, 14, 15] [0, 4, 5, 6, 7, 8, 9, 10, 11, 12, 13, 14, 15, 1, 2, 3] rfl rfl rfl (by decide) rfl rfl rfl rfl rfl (Nat.le_of_ble_eq_true rfl) rfl d_V_crash_26 (fun H locs hP hD hS => ?_)
      refine lv_aload_n hx hb d_V_crash_29 rfl (lv_at hl 0 rfl) ?_
      refine va_get (D := D) (ci := 1) (v := .ref h_p0_d) (C := R_V) (T := F_V) (N := 6) hx hb ht in_V hown hK hP 0 rfl rfl 1 (by decide) (ht _ f_V_16) (fun _ h9 => h9) rfl d_V_crash_30 ?_
      refine lv_iload_n hx hb d_V_crash_33 rfl (lv_at hl 1 rfl) ?_
      refine lv_iconst (v := (nI 0)) hx hb d_V_crash_34 (by decide) ?_
      obtain ⟨d_blank_35, h35, h⟩ := bd_some h
      refine wk_Vv (As := [.int x1, .int (nI 0)]) (rest := []) (wc := (w_S cI cZ h_p0_d h_p0_d_maps h_p0_d_tables h_p0_d_words h_p0_d_blank h_p0_d_queue d_maps d_tables d_words d_blank d_queue)) (w1 := (w_S cI cZ h_p0_d h_p0_d_maps h_p0_d_tables h_p0_d_words h_p0_d_blank h_p0_d_queue d_maps d_tables d_words d_blank_35 d_queue)) (wr := [(h_p0, .inr (1, [.ref h_p0_m, .ref h_p0_d, .ref h_p0_young, .ref h_p0_dropped, .ref h_p0_leaving, .int ren])), (h_p0_m, .inr (0, [.ref h_p0_m_maps, .ref h_p0_m_tables, .ref h_p0_m_words, .ref h_p0_m_blank, .ref h_p0_m_queue])), (h_p0_m_maps, .inl (cI, 48, .inl m_maps_26)), (h_p0_m_tables, .inl (cI, 90, .inl m_tables_26)), (h_p0_m_words, .inl (cI, 288, .inl m_words_26)), (h_p0_m_blank, .inl (cZ, 36, .inl m_blank)), (h_p0_m_queue, .inl (cI, 18, .inl m_queue)), (h_p0_young, .inl (cI, 36, .inl young)), (h_p0_dropped, .inl (cI, 36, .inl dropped)), (h_p0_leaving, .inl (cI, 18, .inl leaving))]) (wz := (w_V cI cZ h_p0 h_p0_m h_p0_m_maps h_p0_m_tables h_p0_m_words h_p0_m_blank h_p0_m_queue h_p0_d h_p0_d_maps h_p0_d_tables h_p0_d_words h_p0_d_blank h_p0_d_queue h_p0_young h_p0_dropped h_p0_leaving m_maps_26 m_tables_26 m_words_26 m_blank m_queue d_maps d_tables d_words d_blank_35 d_queue young dropped leaving ren)) cf hK hN hA (c_S_setBlank l D cI cZ h_p0_d h_p0_d_maps h_p0_d_tables h_p0_d_words h_p0_d_blank h_p0_d_queue d_maps d_tables d_words d_blank d_queue d_blank_35 x1 (nI 0) h35) k_V_139 ⟨rfl, rfl, by decide, by decide⟩ 0 rfl rfl rfl hl hP hD hS [7, 8, 9, 10, 11, 12] [0, 1, 2, 3, 4, 5, 6, 13, 14, 15] [0, 1, 2, 3, 4, 5, 6, 10, 11, 12, 13, 14, 15, 7, 8, 9] rfl rfl rfl (by decide) rfl rfl rfl rfl rfl (Nat.le_of_ble_eq_true rfl) rfl d_V_crash_35 (fun H locs hP hD hS => ?_)
      refine lv_aload_n hx hb d_V_crash_38 rfl (lv_at hl 0 rfl) ?_
      refine va_get (D := D) (ci := 1) (v := .ref h_p0_young) (C := R_V) (T := F_V) (N := 6) hx hb ht in_V hown hK hP 0 rfl rfl 2 (by decide) (ht _ f_V_19) (fun _ h9 => h9) rfl d_V_crash_39 ?_
      refine lv_iload_n hx hb d_V_crash_42 rfl (lv_at hl 1 rfl) ?_
      refine lv_iconst (v := (nI 0)) hx hb d_V_crash_43 (by decide) ?_
      obtain ⟨hin, h⟩ := ga_some h
      refine va_iast hx hb hK hP hD hS 13 0 rfl rfl hin d_V_crash_44 (fun H locs hP hD hS => ?_)
      have hP : va_P D clA (w_V cI cZ h_p0 h_p0_m h_p0_m_maps h_p0_m_tables h_p0_m_words h_p0_m_blank h_p0_m_queue h_p0_d h_p0_d_maps h_p0_d_tables h_p0_d_words h_p0_d_blank h_p0_d_queue h_p0_young h_p0_dropped h_p0_leaving m_maps_26 m_tables_26 m_words_26 m_blank m_queue d_maps d_tables d_words d_blank_35 d_queue (upd young x1.toNatClampNeg (nI 0)) dropped leaving ren) H := hP
      have hD : va_D A (w_V cI cZ h_p0 h_p0_m h_p0_m_maps h_p0_m_tables h_p0_m_words h_p0_m_blank h_p0_m_queue h_p0_d h_p0_d_maps h_p0_d_tables h_p0_d_words h_p0_d_blank h_p0_d_queue h_p0_young h_p0_dropped h_p0_leaving m_maps_26 m_tables_26 m_words_26 m_blank m_queue d_maps d_tables d_words d_blank_35 d_queue (upd young x1.toNatClampNeg (nI 0)) dropped leaving ren) := hD
      refine lv_aload_n hx hb d_V_crash_45 rfl (lv_at hl 0 rfl) ?_
      refine va_get (D := D) (ci := 1) (v := .ref h_p0_dropped) (C := R_V) (T := F_V) (N := 6) hx hb ht in_V hown hK hP 0 rfl rfl 3 (by decide) (ht _ f_V_23) (fun _ h9 => h9) rfl d_V_crash_46 ?_
      refine lv_iload_n hx hb d_V_crash_49 rfl (lv_at hl 1 rfl) ?_
      refine lv_iconst (v := (nI 0)) hx hb d_V_crash_50 (by decide) ?_
      obtain ⟨hin, h⟩ := ga_some h
      refine va_iast hx hb hK hP hD hS 14 0 rfl rfl hin d_V_crash_51 (fun H locs hP hD hS => ?_)
      have hP : va_P D clA (w_V cI cZ h_p0 h_p0_m h_p0_m_maps h_p0_m_tables h_p0_m_words h_p0_m_blank h_p0_m_queue h_p0_d h_p0_d_maps h_p0_d_tables h_p0_d_words h_p0_d_blank h_p0_d_queue h_p0_young h_p0_dropped h_p0_leaving m_maps_26 m_tables_26 m_words_26 m_blank m_queue d_maps d_tables d_words d_blank_35 d_queue (upd young x1.toNatClampNeg (nI 0)) (upd dropped x1.toNatClampNeg (nI 0)) leaving ren) H := hP
      have hD : va_D A (w_V cI cZ h_p0 h_p0_m h_p0_m_maps h_p0_m_tables h_p0_m_words h_p0_m_blank h_p0_m_queue h_p0_d h_p0_d_maps h_p0_d_tables h_p0_d_words h_p0_d_blank h_p0_d_queue h_p0_young h_p0_dropped h_p0_leaving m_maps_26 m_tables_26 m_words_26 m_blank m_queue d_maps d_tables d_words d_blank_35 d_queue (upd young x1.toNatClampNeg (nI 0)) (upd dropped x1.toNatClampNeg (nI 0)) leaving ren) := hD
      refine lv_iinc (k := 1) (v := (x1 + (nI 1))) (lv' := [(1, .int (x1 + (nI 1))), (0, .ref h_p0)]) hx hb d_V_crash_52 hl rfl rfl (by decide) rfl (fun ls hl => ?_)
      refine lv_goto hx hb d_V_crash_55 rfl ?_
      exact ih (x1 + (nI 1)) m_maps_26 m_tables_26 m_words_26 d_blank_35 (upd young x1.toNatClampNeg (nI 0)) (upd dropped x1.toNatClampNeg (nI 0)) leaving h H locs ls (lv_sub hl [1, 0] rfl) hP hD hS
set_option maxHeartbeats 4000000 in
set_option maxRecDepth 100000 in
theorem c_V_crash (l : Launch) (D : va_G) (cI cZ : ClassId) (h_p0 h_p0_m h_p0_m_maps h_p0_m_tables h_p0_m_words h_p0_m_blank h_p0_m_queue h_p0_d h_p0_d_maps h_p0_d_tables h_p0_d_words h_p0_d_blank h_p0_d_queue h_p0_young h_p0_dropped h_p0_leaving : Nat) (F : Nat) (m_maps : (Nat → Int32)) (m_tables : (Nat → Int32)) (m_words : (Nat → Int32)) (m_blank : (Nat → Int32)) (m_queue : (Nat → Int32)) (d_maps : (Nat → Int32)) (d_tables : (Nat → Int32)) (d_words : (Nat → Int32)) (d_blank : (Nat → Int32)) (d_queue : (Nat → Int32)) (young : (Nat → Int32)) (dropped : (Nat → Int32)) (leaving : (Nat → Int32)) (ren : Int32) (m_maps' : (Nat → Int32)) (m_tables' : (Nat → Int32)) (m_words' : (Nat → Int32)) (d_blank' : (Nat → Int32)) (young' : (Nat → Int32)) (dropped' : (Nat → Int32)) (leaving' : (Nat → Int32)) (r : Int32) (h : s_V_crash F d_maps d_tables d_words ren m_maps m_tables m_words d_blank young dropped leaving = some (r, m_maps', m_tables', m_words', d_blank', young', dropped', leaving')) : sc_i l y_V_crash (o_V_crash :: wA) rm_V_crash D cI cZ [.ref h_p0] (w_V cI cZ h_p0 h_p0_m h_p0_m_maps h_p0_m_tables h_p0_m_words h_p0_m_blank h_p0_m_queue h_p0_d h_p0_d_maps h_p0_d_tables h_p0_d_words h_p0_d_blank h_p0_d_queue h_p0_young h_p0_dropped h_p0_leaving m_maps m_tables m_words m_blank m_queue d_maps d_tables d_words d_blank d_queue young dropped leaving ren) (w_V cI cZ h_p0 h_p0_m h_p0_m_maps h_p0_m_tables h_p0_m_words h_p0_m_blank h_p0_m_queue h_p0_d h_p0_d_maps h_p0_d_tables h_p0_d_words h_p0_d_blank h_p0_d_queue h_p0_young h_p0_dropped h_p0_leaving (m_maps') (m_tables') (m_words') m_blank m_queue d_maps d_tables d_words (d_blank') d_queue (young') (dropped') (leaving') ren) r := by
  refine sc_i_of (cc := b_V_crash) (maxL := 2) (ret := (some .boolean)) (by decide) rfl (Nat.le_of_ble_eq_true rfl) ?_
  intro p e s m below meth c A cf hr hlk hK hN hA H locs ls hl hP hD hS
  have hx := cf.1
  have hb := cf.2.1
  have hown := cf.2.2.2.1
  have ht : ∀ w ∈ wA, w.before _ s = true := fun w h => cf.2.2.2.2 w (List.mem_cons_of_mem _ h)
  unfold s_V_crash at h
  have hl : lv_has ls 2 [(0, .ref h_p0)] := hl
  refine lv_aload_n hx hb d_V_crash_0 rfl (lv_at hl 0 rfl) ?_
  refine va_get (D := D) (ci := 1) (v := .int ren) (C := R_V) (T := F_V) (N := 6) hx hb ht in_V hown hK hP 0 rfl rfl 5 (by decide) (ht _ f_V_29) (fun _ h9 => h9) rfl d_V_crash_1 ?_
  refine lv_if_eq hx hb d_V_crash_4 rfl (fun hc => ?_) (fun hc => ?_)
  · rw [if_pos hc] at h
    refine lv_iconst (v := (nI 0)) hx hb d_V_crash_9 (by decide) ?_
    refine lv_istore_n (lv' := [(1, .int (nI 0)), (0, .ref h_p0)]) hx hb d_V_crash_10 rfl hl (by decide) rfl (fun ls hl => ?_)
    exact w_V_crash_11 h_p0 h_p0_m h_p0_m_maps h_p0_m_tables h_p0_m_words h_p0_m_blank h_p0_m_queue h_p0_d h_p0_d_maps h_p0_d_tables h_p0_d_words h_p0_d_blank h_p0_d_queue h_p0_young h_p0_dropped h_p0_leaving F m_blank m_queue d_maps d_tables d_words d_queue ren m_maps' m_tables' m_words' d_blank' young' dropped' leaving' r ⟨cf, hr, hlk, hK, hN, hA⟩ F (nI 0) m_maps m_tables m_words d_blank young dropped leaving h H locs ls (lv_sub hl [1, 0] rfl) hP hD hS
  · rw [if_neg hc] at h
    refine lv_iconst (v := (nI 0)) hx hb d_V_crash_7 (by decide) ?_
    have hz : ((nI 0) : Int32) = 0 ∨ ((nI 0) : Int32) = 1 := by decide
    cases h
    exact sc_zret cf hr hlk hz hK hP hD hS d_V_crash_8
set_option maxHeartbeats 4000000 in
set_option maxRecDepth 100000 in
theorem w_V_isInTree_29 {p : Program} {l : Launch} {e : Env} {s : State} {m : MethodId} {args : Array Value} {below : List Frame} {meth : Method} {c : Code} {D : va_G} {cI cZ : ClassId} {A : Nat → Prop} (h_p0 h_p0_m h_p0_m_maps h_p0_m_tables h_p0_m_words h_p0_m_blank h_p0_m_queue h_p0_d h_p0_d_maps h_p0_d_tables h_p0_d_words h_p0_d_blank h_p0_d_queue h_p0_young h_p0_dropped h_p0_leaving : Nat) (F : Nat) (m_maps : (Nat → Int32)) (m_tables : (Nat → Int32)) (m_words : (Nat → Int32)) (m_blank : (Nat → Int32)) (d_maps : (Nat → Int32)) (d_tables : (Nat → Int32)) (d_words : (Nat → Int32)) (d_blank : (Nat → Int32)) (d_queue : (Nat → Int32)) (young : (Nat → Int32)) (dropped : (Nat → Int32)) (leaving : (Nat → Int32)) (ren : Int32) (m_queue' : (Nat → Int32)) (r : Int32) (cx : cx_ok p s m args meth c b_V_isInTree 2 o_V_isInTree "OrderedVolume" (some .boolean) D cI cZ A) : ∀ (m_queue : (Nat → Int32)), s_V_isInTree_29 F m_tables m_words m_blank m_queue = some (r, m_queue') → wk_G p l e rm_V_isInTree s m args below meth c (sc_Qi below args s D cI cZ A (w_V cI cZ h_p0 h_p0_m h_p0_m_maps h_p0_m_tables h_p0_m_words h_p0_m_blank h_p0_m_queue h_p0_d h_p0_d_maps h_p0_d_tables h_p0_d_words h_p0_d_blank h_p0_d_queue h_p0_young h_p0_dropped h_p0_leaving m_maps m_tables m_words m_blank (m_queue') d_maps d_tables d_words d_blank d_queue young dropped leaving ren) r) D A 2 29 [] [(0, .ref h_p0)] (w_V cI cZ h_p0 h_p0_m h_p0_m_maps h_p0_m_tables h_p0_m_words h_p0_m_blank h_p0_m_queue h_p0_d h_p0_d_maps h_p0_d_tables h_p0_d_words h_p0_d_blank h_p0_d_queue h_p0_young h_p0_dropped h_p0_leaving m_maps m_tables m_words m_blank m_queue d_maps d_tables d_words d_blank d_queue young dropped leaving ren) := by
  obtain ⟨cf, hr, hlk, hK, hN, hA⟩ := cx
  have hx := cf.1
  have hb := cf.2.1
  have hown := cf.2.2.2.1
  have ht : ∀ w ∈ wA, w.before args s = true := fun w h => cf.2.2.2.2 w (List.mem_cons_of_mem _ h)
  intro m_queue h H locs ls hl hP hD hS
  unfold s_V_isInTree_29 at h
  refine lv_iconst (v := (nI 0)) hx hb d_V_isInTree_29 (by decide) ?_
  have hz : ((nI 0) : Int32) = 0 ∨ ((nI 0) : Int32) = 1 := by decide
  cases h
  exact sc_zret cf hr hlk hz hK hP hD hS d_V_isInTree_30
