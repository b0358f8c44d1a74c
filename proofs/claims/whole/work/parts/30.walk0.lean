set_option maxHeartbeats 4000000 in
set_option maxRecDepth 100000 in
theorem c_S_kind (l : Launch) (D : va_G) (cI cZ : ClassId) (h_p0 h_p0_maps h_p0_tables h_p0_words h_p0_blank h_p0_queue : Nat) (maps : (Nat → Int32)) (tables : (Nat → Int32)) (words : (Nat → Int32)) (blank : (Nat → Int32)) (queue : (Nat → Int32)) (x1 : Int32) (r : Int32) (h : s_S_kind tables x1 = some r) : sc_i l y_S_kind (o_S_kind :: wA) rm_S_kind D cI cZ [.ref h_p0, .int x1] (w_S cI cZ h_p0 h_p0_maps h_p0_tables h_p0_words h_p0_blank h_p0_queue maps tables words blank queue) (w_S cI cZ h_p0 h_p0_maps h_p0_tables h_p0_words h_p0_blank h_p0_queue maps tables words blank queue) r := by
  refine sc_i_of (cc := b_S_kind) (maxL := 2) (ret := (some .int)) (by decide) rfl (Nat.le_of_ble_eq_true rfl) ?_
  intro p e s m below meth c A cf hr hlk hK hN hA H locs ls hl hP hD hS
  have hx := cf.1
  have hb := cf.2.1
  have hown := cf.2.2.2.1
  have ht : ∀ w ∈ wA, w.before _ s = true := fun w h => cf.2.2.2.2 w (List.mem_cons_of_mem _ h)
  unfold s_S_kind at h
  have hl : lv_has ls 2 [(0, .ref h_p0), (1, .int x1)] := hl
  refine lv_aload_n hx hb d_S_kind_0 rfl (lv_at hl 0 rfl) ?_
  refine va_get (D := D) (ci := 0) (v := .ref h_p0_tables) (C := R_S) (T := F_S) (N := 5) hx hb ht in_S hown hK hP 0 rfl rfl 1 (by decide) (ht _ f_S_15) (fun _ h9 => h9) rfl d_S_kind_1 ?_
  refine lv_iload_n hx hb d_S_kind_4 rfl (lv_at hl 1 rfl) ?_
  refine lv_iconst (v := (nI 5)) hx hb d_S_kind_5 (by decide) ?_
  refine lv_imul hx hb d_S_kind_6 ?_
  obtain ⟨hin, h⟩ := gr_some h
  refine va_iald hx hb hK hP 2 0 rfl rfl hin d_S_kind_7 ?_
  generalize tables (x1 * (nI 5)).toNatClampNeg = v7 at h ⊢
  cases h
  exact sc_iret cf hr hlk hK hP hD hS d_S_kind_8
set_option maxHeartbeats 4000000 in
set_option maxRecDepth 100000 in
theorem c_S_inodeMark (l : Launch) (D : va_G) (cI cZ : ClassId) (h_p0 h_p0_maps h_p0_tables h_p0_words h_p0_blank h_p0_queue : Nat) (maps : (Nat → Int32)) (tables : (Nat → Int32)) (words : (Nat → Int32)) (blank : (Nat → Int32)) (queue : (Nat → Int32)) (x1 : Int32) (r : Int32) (h : s_S_inodeMark maps x1 = some r) : sc_i l y_S_inodeMark (o_S_inodeMark :: wA) rm_S_inodeMark D cI cZ [.ref h_p0, .int x1] (w_S cI cZ h_p0 h_p0_maps h_p0_tables h_p0_words h_p0_blank h_p0_queue maps tables words blank queue) (w_S cI cZ h_p0 h_p0_maps h_p0_tables h_p0_words h_p0_blank h_p0_queue maps tables words blank queue) r := by
  refine sc_i_of (cc := b_S_inodeMark) (maxL := 2) (ret := (some .int)) (by decide) rfl (Nat.le_of_ble_eq_true rfl) ?_
  intro p e s m below meth c A cf hr hlk hK hN hA H locs ls hl hP hD hS
  have hx := cf.1
  have hb := cf.2.1
  have hown := cf.2.2.2.1
  have ht : ∀ w ∈ wA, w.before _ s = true := fun w h => cf.2.2.2.2 w (List.mem_cons_of_mem _ h)
  unfold s_S_inodeMark at h
  have hl : lv_has ls 2 [(0, .ref h_p0), (1, .int x1)] := hl
  refine lv_aload_n hx hb d_S_inodeMark_0 rfl (lv_at hl 0 rfl) ?_
  refine va_get (D := D) (ci := 0) (v := .ref h_p0_maps) (C := R_S) (T := F_S) (N := 5) hx hb ht in_S hown hK hP 0 rfl rfl 0 (by decide) (ht _ f_S_9) (fun _ h9 => h9) rfl d_S_inodeMark_1 ?_
  refine lv_iload_n hx hb d_S_inodeMark_4 rfl (lv_at hl 1 rfl) ?_
  refine lv_bipush (v := (nI 6)) hx hb d_S_inodeMark_5 (by decide) ?_
  refine lv_idiv hx hb d_S_inodeMark_7 (by decide) ?_
  refine lv_bipush (v := (nI 16)) hx hb d_S_inodeMark_8 (by decide) ?_
  refine lv_imul hx hb d_S_inodeMark_10 ?_
  refine lv_iload_n hx hb d_S_inodeMark_11 rfl (lv_at hl 1 rfl) ?_
  refine lv_bipush (v := (nI 6)) hx hb d_S_inodeMark_12 (by decide) ?_
  refine lv_irem hx hb d_S_inodeMark_14 (by decide) ?_
  refine lv_iadd hx hb d_S_inodeMark_15 ?_
  obtain ⟨hin, h⟩ := gr_some h
  refine va_iald hx hb hK hP 1 0 rfl rfl hin d_S_inodeMark_16 ?_
  generalize maps (((x1 / (nI 6)) * (nI 16)) + (x1 - x1 / (nI 6) * (nI 6))).toNatClampNeg = v16 at h ⊢
  cases h
  exact sc_iret cf hr hlk hK hP hD hS d_S_inodeMark_17
set_option maxHeartbeats 4000000 in
set_option maxRecDepth 100000 in
theorem c_V_has (l : Launch) (D : va_G) (cI cZ : ClassId) (z : Nat) (x0 : Int32) (x1 : Int32) (r : Int32) (h : s_V_has x0 x1 = some r) : sc_i l y_V_has (o_V_has :: wA) rm_V_has D cI cZ [.int x0, .int x1] [] [] r := by
  refine sc_i_of (cc := b_V_has) (maxL := 2) (ret := (some .boolean)) (by decide) rfl (Nat.le_of_ble_eq_true rfl) ?_
  intro p e s m below meth c A cf hr hlk hK hN hA H locs ls hl hP hD hS
  have hx := cf.1
  have hb := cf.2.1
  have hown := cf.2.2.2.1
  have ht : ∀ w ∈ wA, w.before _ s = true := fun w h => cf.2.2.2.2 w (List.mem_cons_of_mem _ h)
  unfold s_V_has at h
  have hl : lv_has ls 2 [(0, .int x0), (1, .int x1)] := hl
  refine lv_iload_n hx hb d_V_has_0 rfl (lv_at hl 0 rfl) ?_
  refine lv_iload_n hx hb d_V_has_1 rfl (lv_at hl 1 rfl) ?_
  refine lv_ishr hx hb d_V_has_2 ?_
  refine lv_iconst (v := (nI 1)) hx hb d_V_has_3 (by decide) ?_
  refine lv_iand hx hb d_V_has_4 ?_
  refine lv_iconst (v := (nI 1)) hx hb d_V_has_5 (by decide) ?_
  refine lv_icmp_ne hx hb d_V_has_6 rfl (fun hc => ?_) (fun hc => ?_)
  · rw [if_neg hc] at h
    refine lv_iconst (v := (nI 0)) hx hb d_V_has_13 (by decide) ?_
    have hz : ((nI 0) : Int32) = 0 ∨ ((nI 0) : Int32) = 1 := by decide
    cases h
    exact sc_zret cf hr hlk hz hK hP hD hS d_V_has_14
  · rw [if_pos hc] at h
    refine lv_iconst (v := (nI 1)) hx hb d_V_has_9 (by decide) ?_
    refine lv_goto hx hb d_V_has_10 rfl ?_
    have hz : ((nI 1) : Int32) = 0 ∨ ((nI 1) : Int32) = 1 := by decide
    cases h
    exact sc_zret cf hr hlk hz hK hP hD hS d_V_has_14
set_option maxHeartbeats 4000000 in
set_option maxRecDepth 100000 in
theorem w_S_entry_40 {p : Program} {l : Launch} {e : Env} {s : State} {m : MethodId} {args : Array Value} {below : List Frame} {meth : Method} {c : Code} {D : va_G} {cI cZ : ClassId} {A : Nat → Prop} (h_p0 h_p0_maps h_p0_tables h_p0_words h_p0_blank h_p0_queue : Nat) (maps : (Nat → Int32)) (tables : (Nat → Int32)) (words : (Nat → Int32)) (blank : (Nat → Int32)) (queue : (Nat → Int32)) (r : Int32) (cx : cx_ok p s m args meth c b_S_entry 4 o_S_entry "OrderedVolume$Store" (some .int) D cI cZ A) : s_S_entry_40 tables words blank = some r → wk_G p l e rm_S_entry s m args below meth c (sc_Qi below args s D cI cZ A (w_S cI cZ h_p0 h_p0_maps h_p0_tables h_p0_words h_p0_blank h_p0_queue maps tables words blank queue) r) D A 4 40 [] [(0, .ref h_p0)] (w_S cI cZ h_p0 h_p0_maps h_p0_tables h_p0_words h_p0_blank h_p0_queue maps tables words blank queue) := by
  obtain ⟨cf, hr, hlk, hK, hN, hA⟩ := cx
  have hx := cf.1
  have hb := cf.2.1
  have hown := cf.2.2.2.1
  have ht : ∀ w ∈ wA, w.before args s = true := fun w h => cf.2.2.2.2 w (List.mem_cons_of_mem _ h)
  intro  h H locs ls hl hP hD hS
  unfold s_S_entry_40 at h
  refine lv_iconst (v := (nI 0)) hx hb d_S_entry_40 (by decide) ?_
  refine lv_goto hx hb d_S_entry_41 rfl ?_
  cases h
  exact sc_iret cf hr hlk hK hP hD hS d_S_entry_55
set_option maxHeartbeats 4000000 in
set_option maxRecDepth 100000 in
theorem w_S_entry_26 {p : Program} {l : Launch} {e : Env} {s : State} {m : MethodId} {args : Array Value} {below : List Frame} {meth : Method} {c : Code} {D : va_G} {cI cZ : ClassId} {A : Nat → Prop} (h_p0 h_p0_maps h_p0_tables h_p0_words h_p0_blank h_p0_queue : Nat) (maps : (Nat → Int32)) (tables : (Nat → Int32)) (words : (Nat → Int32)) (blank : (Nat → Int32)) (queue : (Nat → Int32)) (r : Int32) (cx : cx_ok p s m args meth c b_S_entry 4 o_S_entry "OrderedVolume$Store" (some .int) D cI cZ A) : ∀ (x2 : Int32) (t0 : Int32), s_S_entry_26 tables words blank x2 t0 = some r → wk_G p l e rm_S_entry s m args below meth c (sc_Qi below args s D cI cZ A (w_S cI cZ h_p0 h_p0_maps h_p0_tables h_p0_words h_p0_blank h_p0_queue maps tables words blank queue) r) D A 4 26 [.int t0] [(0, .ref h_p0), (2, .int x2)] (w_S cI cZ h_p0 h_p0_maps h_p0_tables h_p0_words h_p0_blank h_p0_queue maps tables words blank queue) := by
  obtain ⟨cf, hr, hlk, hK, hN, hA⟩ := cx
  have hx := cf.1
  have hb := cf.2.1
  have hown := cf.2.2.2.1
  have ht : ∀ w ∈ wA, w.before args s = true := fun w h => cf.2.2.2.2 w (List.mem_cons_of_mem _ h)
  intro x2 t0 h H locs ls hl hP hD hS
  unfold s_S_entry_26 at h
  refine lv_istore_n (lv' := [(3, .int t0), (0, .ref h_p0), (2, .int x2)]) hx hb d_S_entry_26 rfl hl (by decide) rfl (fun ls hl => ?_)
  refine lv_iload_n hx hb d_S_entry_27 rfl (lv_at hl 0 rfl) ?_
  refine lv_if_eq hx hb d_S_entry_28 rfl (fun hc => ?_) (fun hc => ?_)
  · rw [if_pos hc] at h
    exact w_S_entry_40 h_p0 h_p0_maps h_p0_tables h_p0_words h_p0_blank h_p0_queue maps tables words blank queue r ⟨cf, hr, hlk, hK, hN, hA⟩ h H locs ls (lv_sub hl [1] rfl) hP hD hS
  · rw [if_neg hc] at h
    refine lv_aload_n hx hb d_S_entry_31 rfl (lv_at hl 1 rfl) ?_
    refine va_get (D := D) (ci := 0) (v := .ref h_p0_blank) (C := R_S) (T := F_S) (N := 5) hx hb ht in_S hown hK hP 0 rfl rfl 3 (by decide) (ht _ f_S_21) (fun _ h9 => h9) rfl d_S_entry_32 ?_
    refine lv_iload_n hx hb d_S_entry_35 rfl (lv_at hl 0 rfl) ?_
    obtain ⟨hin, h⟩ := gr_some h
    refine va_zald hx hb hK hP 4 1 rfl rfl hin d_S_entry_36 ?_
    generalize blank t0.toNatClampNeg = v36 at h ⊢
    refine lv_if_eq hx hb d_S_entry_37 rfl (fun hc => ?_) (fun hc => ?_)
    · rw [if_pos hc] at h
      refine lv_aload_n hx hb d_S_entry_44 rfl (lv_at hl 1 rfl) ?_
      refine va_get (D := D) (ci := 0) (v := .ref h_p0_words) (C := R_S) (T := F_S) (N := 5) hx hb ht in_S hown hK hP 0 rfl rfl 2 (by decide) (ht _ f_S_18) (fun _ h9 => h9) rfl d_S_entry_45 ?_
      refine lv_iload_n hx hb d_S_entry_48 rfl (lv_at hl 0 rfl) ?_
      refine lv_bipush (v := (nI 8)) hx hb d_S_entry_49 (by decide) ?_
      refine lv_imul hx hb d_S_entry_51 ?_
      refine lv_iload_n hx hb d_S_entry_52 rfl (lv_at hl 2 rfl) ?_
      refine lv_iadd hx hb d_S_entry_53 ?_
      obtain ⟨hin, h⟩ := gr_some h
      refine va_iald hx hb hK hP 3 0 rfl rfl hin d_S_entry_54 ?_
      generalize words ((t0 * (nI 8)) + x2).toNatClampNeg = v54 at h ⊢
      cases h
      exact sc_iret cf hr hlk hK hP hD hS d_S_entry_55
    · rw [if_neg hc] at h
      exact w_S_entry_40 h_p0 h_p0_maps h_p0_tables h_p0_words h_p0_blank h_p0_queue maps tables words blank queue r ⟨cf, hr, hlk, hK, hN, hA⟩ h H locs ls (lv_sub hl [1] rfl) hP hD hS
set_option maxHeartbeats 4000000 in
set_option maxRecDepth 100000 in
theorem c_S_entry (l : Launch) (D : va_G) (cI cZ : ClassId) (h_p0 h_p0_maps h_p0_tables h_p0_words h_p0_blank h_p0_queue : Nat) (maps : (Nat → Int32)) (tables : (Nat → Int32)) (words : (Nat → Int32)) (blank : (Nat → Int32)) (queue : (Nat → Int32)) (x1 : Int32) (x2 : Int32) (r : Int32) (h : s_S_entry tables words blank x1 x2 = some r) : sc_i l y_S_entry (o_S_entry :: wA) rm_S_entry D cI cZ [.ref h_p0, .int x1, .int x2] (w_S cI cZ h_p0 h_p0_maps h_p0_tables h_p0_words h_p0_blank h_p0_queue maps tables words blank queue) (w_S cI cZ h_p0 h_p0_maps h_p0_tables h_p0_words h_p0_blank h_p0_queue maps tables words blank queue) r := by
  refine sc_i_of (cc := b_S_entry) (maxL := 4) (ret := (some .int)) (by decide) rfl (Nat.le_of_ble_eq_true rfl) ?_
  intro p e s m below meth c A cf hr hlk hK hN hA H locs ls hl hP hD hS
  have hx := cf.1
  have hb := cf.2.1
  have hown := cf.2.2.2.1
  have ht : ∀ w ∈ wA, w.before _ s = true := fun w h => cf.2.2.2.2 w (List.mem_cons_of_mem _ h)
  unfold s_S_entry at h
  have hl : lv_has ls 4 [(0, .ref h_p0), (1, .int x1), (2, .int x2)] := hl
  refine lv_aload_n hx hb d_S_entry_0 rfl (lv_at hl 0 rfl) ?_
  refine va_get (D := D) (ci := 0) (v := .ref h_p0_tables) (C := R_S) (T := F_S) (N := 5) hx hb ht in_S hown hK hP 0 rfl rfl 1 (by decide) (ht _ f_S_15) (fun _ h9 => h9) rfl d_S_entry_1 ?_
  refine lv_iload_n hx hb d_S_entry_4 rfl (lv_at hl 1 rfl) ?_
  refine lv_iconst (v := (nI 5)) hx hb d_S_entry_5 (by decide) ?_
  refine lv_imul hx hb d_S_entry_6 ?_
  obtain ⟨hin, h⟩ := gr_some h
  refine va_iald hx hb hK hP 2 0 rfl rfl hin d_S_entry_7 ?_
  generalize tables (x1 * (nI 5)).toNatClampNeg = v7 at h ⊢
  refine lv_iconst (v := (nI 2)) hx hb d_S_entry_8 (by decide) ?_
  refine lv_icmp_ne hx hb d_S_entry_9 rfl (fun hc => ?_) (fun hc => ?_)
  · rw [if_neg hc] at h
    refine lv_iconst (v := (nI 0)) hx hb d_S_entry_25 (by decide) ?_
    exact w_S_entry_26 h_p0 h_p0_maps h_p0_tables h_p0_words h_p0_blank h_p0_queue maps tables words blank queue r ⟨cf, hr, hlk, hK, hN, hA⟩ x2 (nI 0) h H locs ls (lv_sub hl [0, 2] rfl) hP hD hS
  · rw [if_pos hc] at h
    refine lv_aload_n hx hb d_S_entry_12 rfl (lv_at hl 0 rfl) ?_
    refine va_get (D := D) (ci := 0) (v := .ref h_p0_tables) (C := R_S) (T := F_S) (N := 5) hx hb ht in_S hown hK hP 0 rfl rfl 1 (by decide) (ht _ f_S_15) (fun _ h9 => h9) rfl d_S_entry_13 ?_
    refine lv_iload_n hx hb d_S_entry_16 rfl (lv_at hl 1 rfl) ?_
    refine lv_iconst (v := (nI 5)) hx hb d_S_entry_17 (by decide) ?_
    refine lv_imul hx hb d_S_entry_18 ?_
    refine lv_iconst (v := (nI 2)) hx hb d_S_entry_19 (by decide) ?_
    refine lv_iadd hx hb d_S_entry_20 ?_
    obtain ⟨hin, h⟩ := gr_some h
    refine va_iald hx hb hK hP 2 0 rfl rfl hin d_S_entry_21 ?_
    generalize tables ((x1 * (nI 5)) + (nI 2)).toNatClampNeg = v21 at h ⊢
    refine lv_goto hx hb d_S_entry_22 rfl ?_
    exact w_S_entry_26 h_p0 h_p0_maps h_p0_tables h_p0_words h_p0_blank h_p0_queue maps tables words blank queue r ⟨cf, hr, hlk, hK, hN, hA⟩ x2 v21 h H locs ls (lv_sub hl [0, 2] rfl) hP hD hS
set_option maxHeartbeats 4000000 in
set_option maxRecDepth 100000 in
theorem w_S_entriesFor_27 {p : Program} {l : Launch} {e : Env} {s : State} {m : MethodId} {args : Array Value} {below : List Frame} {meth : Method} {c : Code} {D : va_G} {cI cZ : ClassId} {A : Nat → Prop} (h_p0 h_p0_maps h_p0_tables h_p0_words h_p0_blank h_p0_queue : Nat) (F : Nat) (maps : (Nat → Int32)) (tables : (Nat → Int32)) (words : (Nat → Int32)) (blank : (Nat → Int32)) (queue : (Nat → Int32)) (r : Int32) (k5 : Int32 → Int32 → Int32 → Int32 → Option (Int32)) (cx : cx_ok p s m args meth c b_S_entriesFor 7 o_S_entriesFor "OrderedVolume$Store" (some .int) D cI cZ A) (h5 : (∀ (x1 : Int32) (x2 : Int32) (x3 : Int32) (x4 : Int32), k5 x1 x2 x3 x4 = some r → wk_G p l e rm_S_entriesFor s m args below meth c (sc_Qi below args s D cI cZ A (w_S cI cZ h_p0 h_p0_maps h_p0_tables h_p0_words h_p0_blank h_p0_queue maps tables words blank queue) r) D A 7 5 [] [(0, .ref h_p0), (1, .int x1), (2, .int x2), (3, .int x3), (4, .int x4)] (w_S cI cZ h_p0 h_p0_maps h_p0_tables h_p0_words h_p0_blank h_p0_queue maps tables words blank queue))) : ∀ (n : Nat) (x1 : Int32) (x2 : Int32) (x3 : Int32) (x4 : Int32) (x5 : Int32), s_S_entriesFor_27 F tables words blank k5 n x1 x2 x3 x4 x5 = some r → wk_G p l e rm_S_entriesFor s m args below meth c (sc_Qi below args s D cI cZ A (w_S cI cZ h_p0 h_p0_maps h_p0_tables h_p0_words h_p0_blank h_p0_queue maps tables words blank queue) r) D A 7 27 [] [(0, .ref h_p0), (1, .int x1), (2, .int x2), (3, .int x3), (4, .int x4), (5, .int x5)] (w_S cI cZ h_p0 h_p0_maps h_p0_tables h_p0_words h_p0_blank h_p0_queue maps tables words blank queue) := by
  obtain ⟨cf, hr, hlk, hK, hN, hA⟩ := cx
  have hx := cf.1
  have hb := cf.2.1
  have hown := cf.2.2.2.1
  have ht : ∀ w ∈ wA, w.before args s = true := fun w h => cf.2.2.2.2 w (List.mem_cons_of_mem _ h)
  intro n
  induction n with
  | zero => intro x1 x2 x3 x4 x5 h; cases (show (none : Option (Int32)) = some _ from h)
  | succ n ih =>
    intro x1 x2 x3 x4 x5 h H locs ls hl hP hD hS
    unfold s_S_entriesFor_27 at h
    refine lv_iload hx hb d_S_entriesFor_27 (lv_at hl 5 rfl) ?_
    refine lv_bipush (v := (nI 8)) hx hb d_S_entriesFor_29 (by decide) ?_
    refine lv_icmp_ge hx hb d_S_entriesFor_31 rfl (fun hc => ?_) (fun hc => ?_)
    · rw [if_pos hc] at h
      refine lv_iinc (k := 4) (v := (x4 + (nI 1))) (lv' := [(4, .int (x4 + (nI 1))), (0, .ref h_p0), (1, .int x1), (2, .int x2), (3, .int x3), (5, .int x5)]) hx hb d_S_entriesFor_67 hl rfl rfl (by decide) rfl (fun ls hl => ?_)
      refine lv_goto hx hb d_S_entriesFor_70 rfl ?_
      exact h5 x1 x2 x3 (x4 + (nI 1)) h H locs ls (lv_sub hl [1, 2, 3, 4, 0] rfl) hP hD hS
    · rw [if_neg hc] at h
      refine lv_aload_n hx hb d_S_entriesFor_34 rfl (lv_at hl 0 rfl) ?_
      refine lv_iload hx hb d_S_entriesFor_35 (lv_at hl 4 rfl) ?_
      refine lv_iload hx hb d_S_entriesFor_37 (lv_at hl 5 rfl) ?_
      obtain ⟨r39, h39, h⟩ := bd_some h
      refine wk_Vi (As := [.int x4, .int x5]) (rest := []) (wc := (w_S cI cZ h_p0 h_p0_maps h_p0_tables h_p0_words h_p0_blank h_p0_queue maps tables words blank queue)) (w1 := (w_S cI cZ h_p0 h_p0_maps h_p0_tables h_p0_words h_p0_blank h_p0_queue maps tables words blank queue)) (wr := []) (wz := (w_S cI cZ h_p0 h_p0_maps h_p0_tables h_p0_words h_p0_blank h_p0_queue maps tables words blank queue)) cf hK hN hA (c_S_entry l D cI cZ h_p0 h_p0_maps h_p0_tables h_p0_words h_p0_blank h_p0_queue maps tables words blank queue x4 x5 r39 h39) k_S_56 ⟨rfl, rfl, by decide, by decide⟩ 0 rfl rfl rfl hl hP hD hS [0, 1, 2, 3, 4, 5] [] [0, 1, 2, 3, 4, 5] rfl rfl rfl (by decide) rfl rfl rfl rfl rfl (Nat.le_of_ble_eq_true rfl) rfl d_S_entriesFor_39 (fun H locs hP hD hS => ?_)
      refine lv_istore (lv' := [(6, .int r39), (0, .ref h_p0), (1, .int x1), (2, .int x2), (3, .int x3), (4, .int x4), (5, .int x5)]) hx hb d_S_entriesFor_42 hl (by decide) rfl (fun ls hl => ?_)
      refine lv_iload hx hb d_S_entriesFor_44 (lv_at hl 0 rfl) ?_
      refine lv_if_eq hx hb d_S_entriesFor_46 rfl (fun hc => ?_) (fun hc => ?_)
      · rw [if_pos hc] at h
        refine lv_iinc (k := 6) (v := (x5 + (nI 1))) (lv' := [(5, .int (x5 + (nI 1))), (6, .int r39), (0, .ref h_p0), (1, .int x1), (2, .int x2), (3, .int x3), (4, .int x4)]) hx hb d_S_entriesFor_61 hl rfl rfl (by decide) rfl (fun ls hl => ?_)
        refine lv_goto hx hb d_S_entriesFor_64 rfl ?_
        exact ih x1 x2 x3 x4 (x5 + (nI 1)) h H locs ls (lv_sub hl [2, 3, 4, 5, 6, 0] rfl) hP hD hS
      · rw [if_neg hc] at h
        refine lv_iload hx hb d_S_entriesFor_49 (lv_at hl 0 rfl) ?_
        refine lv_bipush (v := (nI 32)) hx hb d_S_entriesFor_51 (by decide) ?_
        refine lv_irem hx hb d_S_entriesFor_53 (by decide) ?_
        refine lv_iload_n hx hb d_S_entriesFor_54 rfl (lv_at hl 3 rfl) ?_
        refine lv_icmp_ne hx hb d_S_entriesFor_55 rfl (fun hc => ?_) (fun hc => ?_)
        · rw [if_neg hc] at h
          refine lv_iinc (k := 6) (v := (x5 + (nI 1))) (lv' := [(5, .int (x5 + (nI 1))), (6, .int r39), (0, .ref h_p0), (1, .int x1), (2, .int x2), (3, .int x3), (4, .int x4)]) hx hb d_S_entriesFor_61 hl rfl rfl (by decide) rfl (fun ls hl => ?_)
          refine lv_goto hx hb d_S_entriesFor_64 rfl ?_
          exact ih x1 x2 x3 x4 (x5 + (nI 1)) h H locs ls (lv_sub hl [2, 3, 4, 5, 6, 0] rfl) hP hD hS
        · rw [if_pos hc] at h
          refine lv_iinc (k := 4) (v := (x3 + (nI 1))) (lv' := [(3, .int (x3 + (nI 1))), (6, .int r39), (0, .ref h_p0), (1, .int x1), (2, .int x2), (4, .int x4), (5, .int x5)]) hx hb d_S_entriesFor_58 hl rfl rfl (by decide) rfl (fun ls hl => ?_)
          refine lv_iinc (k := 6) (v := (x5 + (nI 1))) (lv' := [(5, .int (x5 + (nI 1))), (3, .int (x3 + (nI 1))), (6, .int r39), (0, .ref h_p0), (1, .int x1), (2, .int x2), (4, .int x4)]) hx hb d_S_entriesFor_61 hl rfl rfl (by decide) rfl (fun ls hl => ?_)
          refine lv_goto hx hb d_S_entriesFor_64 rfl ?_
          exact ih x1 x2 (x3 + (nI 1)) x4 (x5 + (nI 1)) h H locs ls (lv_sub hl [3, 4, 5, 1, 6, 0] rfl) hP hD hS
set_option maxHeartbeats 4000000 in
set_option maxRecDepth 100000 in
theorem w_S_entriesFor_5 {p : Program} {l : Launch} {e : Env} {s : State} {m : MethodId} {args : Array Value} {below : List Frame} {meth : Method} {c : Code} {D : va_G} {cI cZ : ClassId} {A : Nat → Prop} (h_p0 h_p0_maps h_p0_tables h_p0_words h_p0_blank h_p0_queue : Nat) (F : Nat) (maps : (Nat → Int32)) (tables : (Nat → Int32)) (words : (Nat → Int32)) (blank : (Nat → Int32)) (queue : (Nat → Int32)) (r : Int32) (cx : cx_ok p s m args meth c b_S_entriesFor 7 o_S_entriesFor "OrderedVolume$Store" (some .int) D cI cZ A) : ∀ (n : Nat) (x1 : Int32) (x2 : Int32) (x3 : Int32) (x4 : Int32), s_S_entriesFor_5 F tables words blank n x1 x2 x3 x4 = some r → wk_G p l e rm_S_entriesFor s m args below meth c (sc_Qi below args s D cI cZ A (w_S cI cZ h_p0 h_p0_maps h_p0_tables h_p0_words h_p0_blank h_p0_queue maps tables words blank queue) r) D A 7 5 [] [(0, .ref h_p0), (1, .int x1), (2, .int x2), (3, .int x3), (4, .int x4)] (w_S cI cZ h_p0 h_p0_maps h_p0_tables h_p0_words h_p0_blank h_p0_queue maps tables words blank queue) := by
  obtain ⟨cf, hr, hlk, hK, hN, hA⟩ := cx
  have hx := cf.1
  have hb := cf.2.1
  have hown := cf.2.2.2.1
  have ht : ∀ w ∈ wA, w.before args s = true := fun w h => cf.2.2.2.2 w (List.mem_cons_of_mem _ h)
  intro n
  induction n with
  | zero => intro x1 x2 x3 x4 h; cases (show (none : Option (Int32)) = some _ from h)
  | succ n ih =>
    intro x1 x2 x3 x4 h H locs ls hl hP hD hS
    unfold s_S_entriesFor_5 at h
    refine lv_iload hx hb d_S_entriesFor_5 (lv_at hl 4 rfl) ?_
    refine lv_bipush (v := (nI 18)) hx hb d_S_entriesFor_7 (by decide) ?_
    refine lv_icmp_ge hx hb d_S_entriesFor_9 rfl (fun hc => ?_) (fun hc => ?_)
    · rw [if_pos hc] at h
      refine lv_iload_n hx hb d_S_entriesFor_73 rfl (lv_at hl 3 rfl) ?_
      cases h
      exact sc_iret cf hr hlk hK hP hD hS d_S_entriesFor_74
    · rw [if_neg hc] at h
      refine lv_iload_n hx hb d_S_entriesFor_12 rfl (lv_at hl 1 rfl) ?_
      refine lv_iload hx hb d_S_entriesFor_13 (lv_at hl 4 rfl) ?_
      obtain ⟨r15, h15, h⟩ := bd_some h
      refine wk_Ni (As := [.int x1, .int x4]) (rest := []) (wc := []) (w1 := []) (wr := [(h_p0, .inr (0, [.ref h_p0_maps, .ref h_p0_tables, .ref h_p0_words, .ref h_p0_blank, .ref h_p0_queue])), (h_p0_maps, .inl (cI, 48, .inl maps)), (h_p0_tables, .inl (cI, 90, .inl tables)), (h_p0_words, .inl (cI, 288, .inl words)), (h_p0_blank, .inl (cZ, 36, .inl blank)), (h_p0_queue, .inl (cI, 18, .inl queue))]) (wz := (w_S cI cZ h_p0 h_p0_maps h_p0_tables h_p0_words h_p0_blank h_p0_queue maps tables words blank queue)) cf hK hN hA (c_V_has l D cI cZ 0 x1 x4 r15 h15) k_S_66 hN.2.2.1 ⟨rfl, rfl, by decide, by decide⟩ hl hP hD hS [] [0, 1, 2, 3, 4, 5] [0, 1, 2, 3, 4, 5] rfl rfl rfl (by decide) rfl rfl rfl rfl rfl (Nat.le_of_ble_eq_true rfl) rfl d_S_entriesFor_15 (fun H locs hP hD hS => ?_)
      refine lv_if_ne hx hb d_S_entriesFor_18 rfl (fun hc => ?_) (fun hc => ?_)
      · rw [if_neg hc] at h
        refine lv_iconst (v := (nI 0)) hx hb d_S_entriesFor_24 (by decide) ?_
        refine lv_istore (lv' := [(5, .int (nI 0)), (0, .ref h_p0), (1, .int x1), (2, .int x2), (3, .int x3), (4, .int x4)]) hx hb d_S_entriesFor_25 hl (by decide) rfl (fun ls hl => ?_)
        exact w_S_entriesFor_27 h_p0 h_p0_maps h_p0_tables h_p0_words h_p0_blank h_p0_queue F maps tables words blank queue r _ ⟨cf, hr, hlk, hK, hN, hA⟩ ih F x1 x2 x3 x4 (nI 0) h H locs ls (lv_sub hl [1, 2, 3, 4, 5, 0] rfl) hP hD hS
      · rw [if_pos hc] at h
        refine lv_goto hx hb d_S_entriesFor_21 rfl ?_
        refine lv_iinc (k := 4) (v := (x4 + (nI 1))) (lv' := [(4, .int (x4 + (nI 1))), (0, .ref h_p0), (1, .int x1), (2, .int x2), (3, .int x3)]) hx hb d_S_entriesFor_67 hl rfl rfl (by decide) rfl (fun ls hl => ?_)
        refine lv_goto hx hb d_S_entriesFor_70 rfl ?_
        exact ih x1 x2 x3 (x4 + (nI 1)) h H locs ls (lv_sub hl [1, 2, 3, 4, 0] rfl) hP hD hS
set_option maxHeartbeats 4000000 in
set_option maxRecDepth 100000 in
theorem c_S_entriesFor (l : Launch) (D : va_G) (cI cZ : ClassId) (h_p0 h_p0_maps h_p0_tables h_p0_words h_p0_blank h_p0_queue : Nat) (F : Nat) (maps : (Nat → Int32)) (tables : (Nat → Int32)) (words : (Nat → Int32)) (blank : (Nat → Int32)) (queue : (Nat → Int32)) (x1 : Int32) (x2 : Int32) (r : Int32) (h : s_S_entriesFor F tables words blank x1 x2 = some r) : sc_i l y_S_entriesFor (o_S_entriesFor :: wA) rm_S_entriesFor D cI cZ [.ref h_p0, .int x1, .int x2] (w_S cI cZ h_p0 h_p0_maps h_p0_tables h_p0_words h_p0_blank h_p0_queue maps tables words blank queue) (w_S cI cZ h_p0 h_p0_maps h_p0_tables h_p0_words h_p0_blank h_p0_queue maps tables words blank queue) r := by
  refine sc_i_of (cc := b_S_entriesFor) (maxL := 7) (ret := (some .int)) (by decide) rfl (Nat.le_of_ble_eq_true rfl) ?_
  intro p e s m below meth c A cf hr hlk hK hN hA H locs ls hl hP hD hS
  have hx := cf.1
  have hb := cf.2.1
  have hown := cf.2.2.2.1
  have ht : ∀ w ∈ wA, w.before _ s = true := fun w h => cf.2.2.2.2 w (List.mem_cons_of_mem _ h)
  unfold s_S_entriesFor at h
  have hl : lv_has ls 7 [(0, .ref h_p0), (1, .int x1), (2, .int x2)] := hl
  refine lv_iconst (v := (nI 0)) hx hb d_S_entriesFor_0 (by decide) ?_
  refine lv_istore_n (lv' := [(3, .int (nI 0)), (0, .ref h_p0), (1, .int x1), (2, .int x2)]) hx hb d_S_entriesFor_1 rfl hl (by decide) rfl (fun ls hl => ?_)
  refine lv_iconst (v := (nI 0)) hx hb d_S_entriesFor_2 (by decide) ?_
  refine lv_istore (lv' := [(4, .int (nI 0)), (3, .int (nI 0)), (0, .ref h_p0), (1, .int x1), (2, .int x2)]) hx hb d_S_entriesFor_3 hl (by decide) rfl (fun ls hl => ?_)
  exact w_S_entriesFor_5 h_p0 h_p0_maps h_p0_tables h_p0_words h_p0_blank h_p0_queue F maps tables words blank queue r ⟨cf, hr, hlk, hK, hN, hA⟩ F x1 x2 (nI 0) (nI 0) h H locs ls (lv_sub hl [2, 3, 4, 1, 0] rfl) hP hD hS
set_option maxHeartbeats 4000000 in
set_option maxRecDepth 100000 in
theorem w_S_badEntries_26 {p : Program} {l : Launch} {e : Env} {s : State} {m : MethodId} {args : Array Value} {below : List Frame} {meth : Method} {c : Code} {D : va_G} {cI cZ : ClassId} {A : Nat → Prop} (h_p0 h_p0_maps h_p0_tables h_p0_words h_p0_blank h_p0_queue : Nat) (F : Nat) (maps : (Nat → Int32)) (tables : (Nat → Int32)) (words : (Nat → Int32)) (blank : (Nat → Int32)) (queue : (Nat → Int32)) (r : Int32) (k4 : Int32 → Int32 → Int32 → Option (Int32)) (cx : cx_ok p s m args meth c b_S_badEntries 4 o_S_badEntries "OrderedVolume$Store" (some .int) D cI cZ A) (h4 : (∀ (x1 : Int32) (x2 : Int32) (x3 : Int32), k4 x1 x2 x3 = some r → wk_G p l e rm_S_badEntries s m args below meth c (sc_Qi below args s D cI cZ A (w_S cI cZ h_p0 h_p0_maps h_p0_tables h_p0_words h_p0_blank h_p0_queue maps tables words blank queue) r) D A 4 4 [] [(0, .ref h_p0), (1, .int x1), (2, .int x2), (3, .int x3)] (w_S cI cZ h_p0 h_p0_maps h_p0_tables h_p0_words h_p0_blank h_p0_queue maps tables words blank queue))) : ∀ (x1 : Int32) (x2 : Int32) (x3 : Int32), s_S_badEntries_26 F maps tables words blank k4 x1 x2 x3 = some r → wk_G p l e rm_S_badEntries s m args below meth c (sc_Qi below args s D cI cZ A (w_S cI cZ h_p0 h_p0_maps h_p0_tables h_p0_words h_p0_blank h_p0_queue maps tables words blank queue) r) D A 4 26 [] [(0, .ref h_p0), (1, .int x1), (2, .int x2), (3, .int x3)] (w_S cI cZ h_p0 h_p0_maps h_p0_tables h_p0_words h_p0_blank h_p0_queue maps tables words blank queue) := by
  obtain ⟨cf, hr, hlk, hK, hN, hA⟩ := cx
  have hx := cf.1
  have hb := cf.2.1
  have hown := cf.2.2.2.1
  have ht : ∀ w ∈ wA, w.before args s = true := fun w h => cf.2.2.2.2 w (List.mem_cons_of_mem _ h)
  intro x1 x2 x3 h H locs ls hl hP hD hS
  unfold s_S_badEntries_26 at h
  refine lv_iload_n hx hb d_S_badEntries_26 rfl (lv_at hl 2 rfl) ?_
  refine lv_aload_n hx hb d_S_badEntries_27 rfl (lv_at hl 0 rfl) ?_
  refine lv_iload_n hx hb d_S_badEntries_28 rfl (lv_at hl 1 rfl) ?_
  refine lv_iload_n hx hb d_S_badEntries_29 rfl (lv_at hl 3 rfl) ?_
  obtain ⟨r30, h30, h⟩ := bd_some h
  refine wk_Vi (As := [.int x1, .int x3]) (rest := [.int x2]) (wc := (w_S cI cZ h_p0 h_p0_maps h_p0_tables h_p0_words h_p0_blank h_p0_queue maps tables words blank queue)) (w1 := (w_S cI cZ h_p0 h_p0_maps h_p0_tables h_p0_words h_p0_blank h_p0_queue maps tables words blank queue)) (wr := []) (wz := (w_S cI cZ h_p0 h_p0_maps h_p0_tables h_p0_words h_p0_blank h_p0_queue maps tables words blank queue)) cf hK hN hA (c_S_entriesFor l D cI cZ h_p0 h_p0_maps h_p0_tables h_p0_words h_p0_blank h_p0_queue F maps tables words blank queue x1 x3 r30 h30) k_S_82 ⟨rfl, rfl, by decide, by decide⟩ 0 rfl rfl rfl hl hP hD hS [0, 1, 2, 3, 4, 5] [] [0, 1, 2, 3, 4, 5] rfl rfl rfl (by decide) rfl rfl rfl rfl rfl (Nat.le_of_ble_eq_true rfl) rfl d_S_badEntries_30 (fun H locs hP hD hS => ?_)
  refine lv_iadd hx hb d_S_badEntries_33 ?_
  refine lv_istore_n (lv' := [(2, .int (x2 + r30)), (0, .ref h_p0), (1, .int x1), (3, .int x3)]) hx hb d_S_badEntries_34 rfl hl (by decide) rfl (fun ls hl => ?_)
  refine lv_iinc (k := 3) (v := (x3 + (nI 1))) (lv' := [(3, .int (x3 + (nI 1))), (2, .int (x2 + r30)), (0, .ref h_p0), (1, .int x1)]) hx hb d_S_badEntries_35 hl rfl rfl (by decide) rfl (fun ls hl => ?_)
  refine lv_goto hx hb d_S_badEntries_38 rfl ?_
  exact h4 x1 (x2 + r30) (x3 + (nI 1)) h H locs ls (lv_sub hl [2, 3, 1, 0] rfl) hP hD hS
set_option maxHeartbeats 4000000 in
set_option maxRecDepth 100000 in
theorem w_S_badEntries_4 {p : Program} {l : Launch} {e : Env} {s : State} {m : MethodId} {args : Array Value} {below : List Frame} {meth : Method} {c : Code} {D : va_G} {cI cZ : ClassId} {A : Nat → Prop} (h_p0 h_p0_maps h_p0_tables h_p0_words h_p0_blank h_p0_queue : Nat) (F : Nat) (maps : (Nat → Int32)) (tables : (Nat → Int32)) (words : (Nat → Int32)) (blank : (Nat → Int32)) (queue : (Nat → Int32)) (r : Int32) (cx : cx_ok p s m args meth c b_S_badEntries 4 o_S_badEntries "OrderedVolume$Store" (some .int) D cI cZ A) : ∀ (n : Nat) (x1 : Int32) (x2 : Int32) (x3 : Int32), s_S_badEntries_4 F maps tables words blank n x1 x2 x3 = some r → wk_G p l e rm_S_badEntries s m args below meth c (sc_Qi below args s D cI cZ A (w_S cI cZ h_p0 h_p0_maps h_p0_tables h_p0_words h_p0_blank h_p0_queue maps tables words blank queue) r) D A 4 4 [] [(0, .ref h_p0), (1, .int x1), (2, .int x2), (3, .int x3)] (w_S cI cZ h_p0 h_p0_maps h_p0_tables h_p0_words h_p0_blank h_p0_queue maps tables words blank queue) := by
  obtain ⟨cf, hr, hlk, hK, hN, hA⟩ := cx
  have hx := cf.1
  have hb := cf.2.1
  have hown := cf.2.2.2.1
  have ht : ∀ w ∈ wA, w.before args s = true := fun w h => cf.2.2.2.2 w (List.mem_cons_of_mem _ h)
  intro n
  induction n with
  | zero => intro x1 x2 x3 h; cases (show (none : Option (Int32)) = some _ from h)
  | succ n ih =>
    intro x1 x2 x3 h H locs ls hl hP hD hS
    unfold s_S_badEntries_4 at h
    refine lv_iload_n hx hb d_S_badEntries_4 rfl (lv_at hl 3 rfl) ?_
    refine lv_bipush (v := (nI 18)) hx hb d_S_badEntries_5 (by decide) ?_
    refine lv_icmp_ge hx hb d_S_badEntries_7 rfl (fun hc => ?_) (fun hc => ?_)
    · rw [if_pos hc] at h
      refine lv_iload_n hx hb d_S_badEntries_41 rfl (lv_at hl 2 rfl) ?_
      cases h
      exact sc_iret cf hr hlk hK hP hD hS d_S_badEntries_42
    · rw [if_neg hc] at h
      refine lv_aload_n hx hb d_S_badEntries_10 rfl (lv_at hl 0 rfl) ?_
      refine lv_iload_n hx hb d_S_badEntries_11 rfl (lv_at hl 3 rfl) ?_
      obtain ⟨r12, h12, h⟩ := bd_some h
      refine wk_Vi (As := [.int x3]) (rest := []) (wc := (w_S cI cZ h_p0 h_p0_maps h_p0_tables h_p0_words h_p0_blank h_p0_queue maps tables words blank queue)) (w1 := (w_S cI cZ h_p0 h_p0_maps h_p0_tables h_p0_words h_p0_blank h_p0_queue maps tables words blank queue)) (wr := []) (wz := (w_S cI cZ h_p0 h_p0_maps h_p0_tables h_p0_words h_p0_blank h_p0_queue maps tables words blank queue)) cf hK hN hA (c_S_kind l D cI cZ h_p0 h_p0_maps h_p0_tables h_p0_words h_p0_blank h_p0_queue maps tables words blank queue x3 r12 h12) k_S_73 ⟨rfl, rfl, by decide, by decide⟩ 0 rfl rfl rfl hl hP hD hS [0, 1, 2, 3, 4, 5] [] [0, 1, 2, 3, 4, 5] rfl rfl rfl (by decide) rfl rfl rfl rfl rfl (Nat.le_of_ble_eq_true rfl) rfl d_S_badEntries_12 (fun H locs hP hD hS => ?_)
      refine lv_if_eq hx hb d_S_badEntries_15 rfl (fun hc => ?_) (fun hc => ?_)
      · rw [if_pos hc] at h
        exact w_S_badEntries_26 h_p0 h_p0_maps h_p0_tables h_p0_words h_p0_blank h_p0_queue F maps tables words blank queue r _ ⟨cf, hr, hlk, hK, hN, hA⟩ ih x1 x2 x3 h H locs ls (lv_sub hl [0, 1, 2, 3] rfl) hP hD hS
      · rw [if_neg hc] at h
        refine lv_aload_n hx hb d_S_badEntries_18 rfl (lv_at hl 0 rfl) ?_
        refine lv_iload_n hx hb d_S_badEntries_19 rfl (lv_at hl 3 rfl) ?_
        obtain ⟨r20, h20, h⟩ := bd_some h
        refine wk_Vi (As := [.int x3]) (rest := []) (wc := (w_S cI cZ h_p0 h_p0_maps h_p0_tables h_p0_words h_p0_blank h_p0_queue maps tables words blank queue)) (w1 := (w_S cI cZ h_p0 h_p0_maps h_p0_tables h_p0_words h_p0_blank h_p0_queue maps tables words blank queue)) (wr := []) (wz := (w_S cI cZ h_p0 h_p0_maps h_p0_tables h_p0_words h_p0_blank h_p0_queue maps tables words blank queue)) cf hK hN hA (c_S_inodeMark l D cI cZ h_p0 h_p0_maps h_p0_tables h_p0_words h_p0_blank h_p0_queue maps tables words blank queue x3 r20 h20) k_S_70 ⟨rfl, rfl, by decide, by decide⟩ 0 rfl rfl rfl hl hP hD hS [0, 1, 2, 3, 4, 5] [] [0, 1, 2, 3, 4, 5] rfl rfl rfl (by decide) rfl rfl rfl rfl rfl (Nat.le_of_ble_eq_true rfl) rfl d_S_badEntries_20 (fun H locs hP hD hS => ?_)
        refine lv_if_ne hx hb d_S_badEntries_23 rfl (fun hc => ?_) (fun hc => ?_)
        · rw [if_neg hc] at h
          refine lv_iinc (k := 3) (v := (x3 + (nI 1))) (lv' := [(3, .int (x3 + (nI 1))), (0, .ref h_p0), (1, .int x1), (2, .int x2)]) hx hb d_S_badEntries_35 hl rfl rfl (by decide) rfl (fun ls hl => ?_)
          refine lv_goto hx hb d_S_badEntries_38 rfl ?_
          exact ih x1 x2 (x3 + (nI 1)) h H locs ls (lv_sub hl [1, 2, 3, 0] rfl) hP hD hS
        · rw [if_pos hc] at h
          exact w_S_badEntries_26 h_p0 h_p0_maps h_p0_tables h_p0_words h_p0_blank h_p0_queue F maps tables words blank queue r _ ⟨cf, hr, hlk, hK, hN, hA⟩ ih x1 x2 x3 h H locs ls (lv_sub hl [0, 1, 2, 3] rfl) hP hD hS
set_option maxHeartbeats 4000000 in
set_option maxRecDepth 100000 in
theorem c_S_badEntries (l : Launch) (D : va_G) (cI cZ : ClassId) (h_p0 h_p0_maps h_p0_tables h_p0_words h_p0_blank h_p0_queue : Nat) (F : Nat) (maps : (Nat → Int32)) (tables : (Nat → Int32)) (words : (Nat → Int32)) (blank : (Nat → Int32)) (queue : (Nat → Int32)) (x1 : Int32) (r : Int32) (h : s_S_badEntries F maps tables words blank x1 = some r) : sc_i l y_S_badEntries (o_S_badEntries :: wA) rm_S_badEntries D cI cZ [.ref h_p0, .int x1] (w_S cI cZ h_p0 h_p0_maps h_p0_tables h_p0_words h_p0_blank h_p0_queue maps tables words blank queue) (w_S cI cZ h_p0 h_p0_maps h_p0_tables h_p0_words h_p0_blank h_p0_queue maps tables words blank queue) r := by
  refine sc_i_of (cc := b_S_badEntries) (maxL := 4) (ret := (some .int)) (by decide) rfl (Nat.le_of_ble_eq_true rfl) ?_
  intro p e s m below meth c A cf hr hlk hK hN hA H locs ls hl hP hD hS
  have hx := cf.1
  have hb := cf.2.1
  have hown := cf.2.2.2.1
  have ht : ∀ w ∈ wA, w.before _ s = true := fun w h => cf.2.2.2.2 w (List.mem_cons_of_mem _ h)
  unfold s_S_badEntries at h
  have hl : lv_has ls 4 [(0, .ref h_p0), (1, .int x1)] := hl
  refine lv_iconst (v := (nI 0)) hx hb d_S_badEntries_0 (by decide) ?_
  refine lv_istore_n (lv' := [(2, .int (nI 0)), (0, .ref h_p0), (1, .int x1)]) hx hb d_S_badEntries_1 rfl hl (by decide) rfl (fun ls hl => ?_)
  refine lv_iconst (v := (nI 0)) hx hb d_S_badEntries_2 (by decide) ?_
  refine lv_istore_n (lv' := [(3, .int (nI 0)), (2, .int (nI 0)), (0, .ref h_p0), (1, .int x1)]) hx hb d_S_badEntries_3 rfl hl (by decide) rfl (fun ls hl => ?_)
  exact w_S_badEntries_4 h_p0 h_p0_maps h_p0_tables h_p0_words h_p0_blank h_p0_queue F maps tables words blank queue r ⟨cf, hr, hlk, hK, hN, hA⟩ F x1 (nI 0) (nI 0) h H locs ls (lv_sub hl [2, 3, 1, 0] rfl) hP hD hS
set_option maxHeartbeats 4000000 in
set_option maxRecDepth 100000 in
theorem c_V_isData (l : Launch) (D : va_G) (cI cZ : ClassId) (z : Nat) (x0 : Int32) (r : Int32) (h : s_V_isData x0 = some r) : sc_i l y_V_isData (o_V_isData :: wA) rm_V_isData D cI cZ [.int x0] [] [] r := by
  refine sc_i_of (cc := b_V_isData) (maxL := 1) (ret := (some .boolean)) (by decide) rfl (Nat.le_of_ble_eq_true rfl) ?_
  intro p e s m below meth c A cf hr hlk hK hN hA H locs ls hl hP hD hS
  have hx := cf.1
  have hb := cf.2.1
  have hown := cf.2.2.2.1
  have ht : ∀ w ∈ wA, w.before _ s = true := fun w h => cf.2.2.2.2 w (List.mem_cons_of_mem _ h)
  unfold s_V_isData at h
  have hl : lv_has ls 1 [(0, .int x0)] := hl
  refine lv_iload_n hx hb d_V_isData_0 rfl (lv_at hl 0 rfl) ?_
  refine lv_bipush (v := (nI 12)) hx hb d_V_isData_1 (by decide) ?_
  refine lv_irem hx hb d_V_isData_3 (by decide) ?_
  refine lv_iconst (v := (nI 2)) hx hb d_V_isData_4 (by decide) ?_
  refine lv_icmp_lt hx hb d_V_isData_5 rfl (fun hc => ?_) (fun hc => ?_)
  · rw [if_pos hc] at h
    refine lv_iconst (v := (nI 0)) hx hb d_V_isData_12 (by decide) ?_
    have hz : ((nI 0) : Int32) = 0 ∨ ((nI 0) : Int32) = 1 := by decide
    cases h
    exact sc_zret cf hr hlk hz hK hP hD hS d_V_isData_13
  · rw [if_neg hc] at h
    refine lv_iconst (v := (nI 1)) hx hb d_V_isData_8 (by decide) ?_
    refine lv_goto hx hb d_V_isData_9 rfl ?_
    have hz : ((nI 1) : Int32) = 0 ∨ ((nI 1) : Int32) = 1 := by decide
    cases h
    exact sc_zret cf hr hlk hz hK hP hD hS d_V_isData_13
set_option maxHeartbeats 4000000 in
set_option maxRecDepth 100000 in
theorem c_S_blockMark (l : Launch) (D : va_G) (cI cZ : ClassId) (h_p0 h_p0_maps h_p0_tables h_p0_words h_p0_blank h_p0_queue : Nat) (maps : (Nat → Int32)) (tables : (Nat → Int32)) (words : (Nat → Int32)) (blank : (Nat → Int32)) (queue : (Nat → Int32)) (x1 : Int32) (r : Int32) (h : s_S_blockMark maps x1 = some r) : sc_i l y_S_blockMark (o_S_blockMark :: wA) rm_S_blockMark D cI cZ [.ref h_p0, .int x1] (w_S cI cZ h_p0 h_p0_maps h_p0_tables h_p0_words h_p0_blank h_p0_queue maps tables words blank queue) (w_S cI cZ h_p0 h_p0_maps h_p0_tables h_p0_words h_p0_blank h_p0_queue maps tables words blank queue) r := by
  refine sc_i_of (cc := b_S_blockMark) (maxL := 2) (ret := (some .int)) (by decide) rfl (Nat.le_of_ble_eq_true rfl) ?_
  intro p e s m below meth c A cf hr hlk hK hN hA H locs ls hl hP hD hS
  have hx := cf.1
  have hb := cf.2.1
  have hown := cf.2.2.2.1
  have ht : ∀ w ∈ wA, w.before _ s = true := fun w h => cf.2.2.2.2 w (List.mem_cons_of_mem _ h)
  unfold s_S_blockMark at h
  have hl : lv_has ls 2 [(0, .ref h_p0), (1, .int x1)] := hl
  refine lv_aload_n hx hb d_S_blockMark_0 rfl (lv_at hl 0 rfl) ?_
  refine va_get (D := D) (ci := 0) (v := .ref h_p0_maps) (C := R_S) (T := F_S) (N := 5) hx hb ht in_S hown hK hP 0 rfl rfl 0 (by decide) (ht _ f_S_9) (fun _ h9 => h9) rfl d_S_blockMark_1 ?_
  refine lv_iload_n hx hb d_S_blockMark_4 rfl (lv_at hl 1 rfl) ?_
  refine lv_bipush (v := (nI 12)) hx hb d_S_blockMark_5 (by decide) ?_
  refine lv_idiv hx hb d_S_blockMark_7 (by decide) ?_
  refine lv_bipush (v := (nI 16)) hx hb d_S_blockMark_8 (by decide) ?_
  refine lv_imul hx hb d_S_blockMark_10 ?_
  refine lv_bipush (v := (nI 6)) hx hb d_S_blockMark_11 (by decide) ?_
  refine lv_iadd hx hb d_S_blockMark_13 ?_
  refine lv_iload_n hx hb d_S_blockMark_14 rfl (lv_at hl 1 rfl) ?_
  refine lv_bipush (v := (nI 12)) hx hb d_S_blockMark_15 (by decide) ?_
  refine lv_irem hx hb d_S_blockMark_17 (by decide) ?_
  refine lv_iadd hx hb d_S_blockMark_18 ?_
  refine lv_iconst (v := (nI 2)) hx hb d_S_blockMark_19 (by decide) ?_
  refine lv_isub hx hb d_S_blockMark_20 ?_
  obtain ⟨hin, h⟩ := gr_some h
  refine va_iald hx hb hK hP 1 0 rfl rfl hin d_S_blockMark_21 ?_
  generalize maps (((((x1 / (nI 12)) * (nI 16)) + (nI 6)) + (x1 - x1 / (nI 12) * (nI 12))) - (nI 2)).toNatClampNeg = v21 at h ⊢
  cases h
  exact sc_iret cf hr hlk hK hP hD hS d_S_blockMark_22
set_option maxHeartbeats 4000000 in
set_option maxRecDepth 100000 in
theorem c_S_pointer (l : Launch) (D : va_G) (cI cZ : ClassId) (h_p0 h_p0_maps h_p0_tables h_p0_words h_p0_blank h_p0_queue : Nat) (maps : (Nat → Int32)) (tables : (Nat → Int32)) (words : (Nat → Int32)) (blank : (Nat → Int32)) (queue : (Nat → Int32)) (x1 : Int32) (x2 : Int32) (r : Int32) (h : s_S_pointer tables x1 x2 = some r) : sc_i l y_S_pointer (o_S_pointer :: wA) rm_S_pointer D cI cZ [.ref h_p0, .int x1, .int x2] (w_S cI cZ h_p0 h_p0_maps h_p0_tables h_p0_words h_p0_blank h_p0_queue maps tables words blank queue) (w_S cI cZ h_p0 h_p0_maps h_p0_tables h_p0_words h_p0_blank h_p0_queue maps tables words blank queue) r := by
  refine sc_i_of (cc := b_S_pointer) (maxL := 3) (ret := (some .int)) (by decide) rfl (Nat.le_of_ble_eq_true rfl) ?_
  intro p e s m below meth c A cf hr hlk hK hN hA H locs ls hl hP hD hS
  have hx := cf.1
  have hb := cf.2.1
  have hown := cf.2.2.2.1
  have ht : ∀ w ∈ wA, w.before _ s = true := fun w h => cf.2.2.2.2 w (List.mem_cons_of_mem _ h)
  unfold s_S_pointer at h
  have hl : lv_has ls 3 [(0, .ref h_p0), (1, .int x1), (2, .int x2)] := hl
  refine lv_aload_n hx hb d_S_pointer_0 rfl (lv_at hl 0 rfl) ?_
  refine va_get (D := D) (ci := 0) (v := .ref h_p0_tables) (C := R_S) (T := F_S) (N := 5) hx hb ht in_S hown hK hP 0 rfl rfl 1 (by decide) (ht _ f_S_15) (fun _ h9 => h9) rfl d_S_pointer_1 ?_
  refine lv_iload_n hx hb d_S_pointer_4 rfl (lv_at hl 1 rfl) ?_
  refine lv_iconst (v := (nI 5)) hx hb d_S_pointer_5 (by decide) ?_
  refine lv_imul hx hb d_S_pointer_6 ?_
  refine lv_iconst (v := (nI 2)) hx hb d_S_pointer_7 (by decide) ?_
  refine lv_iadd hx hb d_S_pointer_8 ?_
  refine lv_iload_n hx hb d_S_pointer_9 rfl (lv_at hl 2 rfl) ?_
  refine lv_iadd hx hb d_S_pointer_10 ?_
  obtain ⟨hin, h⟩ := gr_some h
  refine va_iald hx hb hK hP 2 0 rfl rfl hin d_S_pointer_11 ?_
  generalize tables (((x1 * (nI 5)) + (nI 2)) + x2).toNatClampNeg = v11 at h ⊢
  cases h
  exact sc_iret cf hr hlk hK hP hD hS d_S_pointer_12
set_option maxHeartbeats 4000000 in
set_option maxRecDepth 100000 in
theorem w_S_pointersTo_15 {p : Program} {l : Launch} {e : Env} {s : State} {m : MethodId} {args : Array Value} {below : List Frame} {meth : Method} {c : Code} {D : va_G} {cI cZ : ClassId} {A : Nat → Prop} (h_p0 h_p0_maps h_p0_tables h_p0_words h_p0_blank h_p0_queue : Nat) (F : Nat) (maps : (Nat → Int32)) (tables : (Nat → Int32)) (words : (Nat → Int32)) (blank : (Nat → Int32)) (queue : (Nat → Int32)) (r : Int32) (k5 : Int32 → Int32 → Int32 → Int32 → Option (Int32)) (cx : cx_ok p s m args meth c b_S_pointersTo 6 o_S_pointersTo "OrderedVolume$Store" (some .int) D cI cZ A) (h5 : (∀ (x1 : Int32) (x2 : Int32) (x3 : Int32) (x4 : Int32), k5 x1 x2 x3 x4 = some r → wk_G p l e rm_S_pointersTo s m args below meth c (sc_Qi below args s D cI cZ A (w_S cI cZ h_p0 h_p0_maps h_p0_tables h_p0_words h_p0_blank h_p0_queue maps tables words blank queue) r) D A 6 5 [] [(0, .ref h_p0), (1, .int x1), (2, .int x2), (3, .int x3), (4, .int x4)] (w_S cI cZ h_p0 h_p0_maps h_p0_tables h_p0_words h_p0_blank h_p0_queue maps tables words blank queue))) : ∀ (n : Nat) (x1 : Int32) (x2 : Int32) (x3 : Int32) (x4 : Int32) (x5 : Int32), s_S_pointersTo_15 F tables k5 n x1 x2 x3 x4 x5 = some r → wk_G p l e rm_S_pointersTo s m args below meth c (sc_Qi below args s D cI cZ A (w_S cI cZ h_p0 h_p0_maps h_p0_tables h_p0_words h_p0_blank h_p0_queue maps tables words blank queue) r) D A 6 15 [] [(0, .ref h_p0), (1, .int x1), (2, .int x2), (3, .int x3), (4, .int x4), (5, .int x5)] (w_S cI cZ h_p0 h_p0_maps h_p0_tables h_p0_words h_p0_blank h_p0_queue maps tables words blank queue) := by
  obtain ⟨cf, hr, hlk, hK, hN, hA⟩ := cx
  have hx := cf.1
  have hb := cf.2.1
  have hown := cf.2.2.2.1
  have ht : ∀ w ∈ wA, w.before args s = true := fun w h => cf.2.2.2.2 w (List.mem_cons_of_mem _ h)
  intro n
  induction n with
  | zero => intro x1 x2 x3 x4 x5 h; cases (show (none : Option (Int32)) = some _ from h)
  | succ n ih =>
    intro x1 x2 x3 x4 x5 h H locs ls hl hP hD hS
    unfold s_S_pointersTo_15 at h
    refine lv_iload hx hb d_S_pointersTo_15 (lv_at hl 5 rfl) ?_
    refine lv_iconst (v := (nI 3)) hx hb d_S_pointersTo_17 (by decide) ?_
    refine lv_icmp_ge hx hb d_S_pointersTo_18 rfl (fun hc => ?_) (fun hc => ?_)
    · rw [if_pos hc] at h
      refine lv_iinc (k := 4) (v := (x4 + (nI 1))) (lv' := [(4, .int (x4 + (nI 1))), (0, .ref h_p0), (1, .int x1), (2, .int x2), (3, .int x3), (5, .int x5)]) hx hb d_S_pointersTo_51 hl rfl rfl (by decide) rfl (fun ls hl => ?_)
      refine lv_goto hx hb d_S_pointersTo_54 rfl ?_
      exact h5 x1 x2 x3 (x4 + (nI 1)) h H locs ls (lv_sub hl [1, 2, 3, 4, 0] rfl) hP hD hS
    · rw [if_neg hc] at h
      refine lv_iload_n hx hb d_S_pointersTo_21 rfl (lv_at hl 1 rfl) ?_
      refine lv_iload hx hb d_S_pointersTo_22 (lv_at hl 4 rfl) ?_
      obtain ⟨r24, h24, h⟩ := bd_some h
      refine wk_Ni (As := [.int x1, .int x4]) (rest := []) (wc := []) (w1 := []) (wr := [(h_p0, .inr (0, [.ref h_p0_maps, .ref h_p0_tables, .ref h_p0_words, .ref h_p0_blank, .ref h_p0_queue])), (h_p0_maps, .inl (cI, 48, .inl maps)), (h_p0_tables, .inl (cI, 90, .inl tables)), (h_p0_words, .inl (cI, 288, .inl words)), (h_p0_blank, .inl (cZ, 36, .inl blank)), (h_p0_queue, .inl (cI, 18, .inl queue))]) (wz := (w_S cI cZ h_p0 h_p0_maps h_p0_tables h_p0_words h_p0_blank h_p0_queue maps tables words blank queue)) cf hK hN hA (c_V_has l D cI cZ 0 x1 x4 r24 h24) k_S_66 hN.2.2.1 ⟨rfl, rfl, by decide, by decide⟩ hl hP hD hS [] [0, 1, 2, 3, 4, 5] [0, 1, 2, 3, 4, 5] rfl rfl rfl (by decide) rfl rfl rfl rfl rfl (Nat.le_of_ble_eq_true rfl) rfl d_S_pointersTo_24 (fun H locs hP hD hS => ?_)
      refine lv_if_eq hx hb d_S_pointersTo_27 rfl (fun hc => ?_) (fun hc => ?_)
      · rw [if_pos hc] at h
        refine lv_iinc (k := 5) (v := (x5 + (nI 1))) (lv' := [(5, .int (x5 + (nI 1))), (0, .ref h_p0), (1, .int x1), (2, .int x2), (3, .int x3), (4, .int x4)]) hx hb d_S_pointersTo_45 hl rfl rfl (by decide) rfl (fun ls hl => ?_)
        refine lv_goto hx hb d_S_pointersTo_48 rfl ?_
        exact ih x1 x2 x3 x4 (x5 + (nI 1)) h H locs ls (lv_sub hl [1, 2, 3, 4, 5, 0] rfl) hP hD hS
      · rw [if_neg hc] at h
        refine lv_aload_n hx hb d_S_pointersTo_30 rfl (lv_at hl 0 rfl) ?_
        refine lv_iload hx hb d_S_pointersTo_31 (lv_at hl 4 rfl) ?_
        refine lv_iload hx hb d_S_pointersTo_33 (lv_at hl 5 rfl) ?_
        obtain ⟨r35, h35, h⟩ := bd_some h
        refine wk_Vi (As := [.int x4, .int x5]) (rest := []) (wc := (w_S cI cZ h_p0 h_p0_maps h_p0_tables h_p0_words h_p0_blank h_p0_queue maps tables words blank queue)) (w1 := (w_S cI cZ h_p0 h_p0_maps h_p0_tables h_p0_words h_p0_blank h_p0_queue maps tables words blank queue)) (wr := []) (wz := (w_S cI cZ h_p0 h_p0_maps h_p0_tables h_p0_words h_p0_blank h_p0_queue maps tables words blank queue)) cf hK hN hA (c_S_pointer l D cI cZ h_p0 h_p0_maps h_p0_tables h_p0_words h_p0_blank h_p0_queue maps tables words blank queue x4 x5 r35 h35) k_S_63 ⟨rfl, rfl, by decide, by decide⟩ 0 rfl rfl rfl hl hP hD hS [0, 1, 2, 3, 4, 5] [] [0, 1, 2, 3, 4, 5] rfl rfl rfl (by decide) rfl rfl rfl rfl rfl (Nat.le_of_ble_eq_true rfl) rfl d_S_pointersTo_35 (fun H locs hP hD hS => ?_)
        refine lv_iload_n hx hb d_S_pointersTo_38 rfl (lv_at hl 2 rfl) ?_
        refine lv_icmp_ne hx hb d_S_pointersTo_39 rfl (fun hc => ?_) (fun hc => ?_)
        · rw [if_neg hc] at h
          refine lv_iinc (k := 5) (v := (x5 + (nI 1))) (lv' := [(5, .int (x5 + (nI 1))), (0, .ref h_p0), (1, .int x1), (2, .int x2), (3, .int x3), (4, .int x4)]) hx hb d_S_pointersTo_45 hl rfl rfl (by decide) rfl (fun ls hl => ?_)
          refine lv_goto hx hb d_S_pointersTo_48 rfl ?_
          exact ih x1 x2 x3 x4 (x5 + (nI 1)) h H locs ls (lv_sub hl [1, 2, 3, 4, 5, 0] rfl) hP hD hS
        · rw [if_pos hc] at h
          refine lv_iinc (k := 3) (v := (x3 + (nI 1))) (lv' := [(3, .int (x3 + (nI 1))), (0, .ref h_p0), (1, .int x1), (2, .int x2), (4, .int x4), (5, .int x5)]) hx hb d_S_pointersTo_42 hl rfl rfl (by decide) rfl (fun ls hl => ?_)
          refine lv_iinc (k := 5) (v := (x5 + (nI 1))) (lv' := [(5, .int (x5 + (nI 1))), (3, .int (x3 + (nI 1))), (0, .ref h_p0), (1, .int x1), (2, .int x2), (4, .int x4)]) hx hb d_S_pointersTo_45 hl rfl rfl (by decide) rfl (fun ls hl => ?_)
          refine lv_goto hx hb d_S_pointersTo_48 rfl ?_
          exact ih x1 x2 (x3 + (nI 1)) x4 (x5 + (nI 1)) h H locs ls (lv_sub hl [2, 3, 4, 1, 5, 0] rfl) hP hD hS
set_option maxHeartbeats 4000000 in
set_option maxRecDepth 100000 in
theorem w_S_pointersTo_5 {p : Program} {l : Launch} {e : Env} {s : State} {m : MethodId} {args : Array Value} {below : List Frame} {meth : Method} {c : Code} {D : va_G} {cI cZ : ClassId} {A : Nat → Prop} (h_p0 h_p0_maps h_p0_tables h_p0_words h_p0_blank h_p0_queue : Nat) (F : Nat) (maps : (Nat → Int32)) (tables : (Nat → Int32)) (words : (Nat → Int32)) (blank : (Nat → Int32)) (queue : (Nat → Int32)) (r : Int32) (cx : cx_ok p s m args meth c b_S_pointersTo 6 o_S_pointersTo "OrderedVolume$Store" (some .int) D cI cZ A) : ∀ (n : Nat) (x1 : Int32) (x2 : Int32) (x3 : Int32) (x4 : Int32), s_S_pointersTo_5 F tables n x1 x2 x3 x4 = some r → wk_G p l e rm_S_pointersTo s m args below meth c (sc_Qi below args s D cI cZ A (w_S cI cZ h_p0 h_p0_maps h_p0_tables h_p0_words h_p0_blank h_p0_queue maps tables words blank queue) r) D A 6 5 [] [(0, .ref h_p0), (1, .int x1), (2, .int x2), (3, .int x3), (4, .int x4)] (w_S cI cZ h_p0 h_p0_maps h_p0_tables h_p0_words h_p0_blank h_p0_queue maps tables words blank queue) := by
  obtain ⟨cf, hr, hlk, hK, hN, hA⟩ := cx
  have hx := cf.1
  have hb := cf.2.1
  have hown := cf.2.2.2.1
  have ht : ∀ w ∈ wA, w.before args s = true := fun w h => cf.2.2.2.2 w (List.mem_cons_of_mem _ h)
  intro n
  induction n with
  | zero => intro x1 x2 x3 x4 h; cases (show (none : Option (Int32)) = some _ from h)
  | succ n ih =>
    intro x1 x2 x3 x4 h H locs ls hl hP hD hS
    unfold s_S_pointersTo_5 at h
    refine lv_iload hx hb d_S_pointersTo_5 (lv_at hl 4 rfl) ?_
    refine lv_bipush (v := (nI 18)) hx hb d_S_pointersTo_7 (by decide) ?_
    refine lv_icmp_ge hx hb d_S_pointersTo_9 rfl (fun hc => ?_) (fun hc => ?_)
    · rw [if_pos hc] at h
      refine lv_iload_n hx hb d_S_pointersTo_57 rfl (lv_at hl 3 rfl) ?_
      cases h
      exact sc_iret cf hr hlk hK hP hD hS d_S_pointersTo_58
    · rw [if_neg hc] at h
      refine lv_iconst (v := (nI 0)) hx hb d_S_pointersTo_12 (by decide) ?_
      refine lv_istore (lv' := [(5, .int (nI 0)), (0, .ref h_p0), (1, .int x1), (2, .int x2), (3, .int x3), (4, .int x4)]) hx hb d_S_pointersTo_13 hl (by decide) rfl (fun ls hl => ?_)
      exact w_S_pointersTo_15 h_p0 h_p0_maps h_p0_tables h_p0_words h_p0_blank h_p0_queue F maps tables words blank queue r _ ⟨cf, hr, hlk, hK, hN, hA⟩ ih F x1 x2 x3 x4 (nI 0) h H locs ls (lv_sub hl [1, 2, 3, 4, 5, 0] rfl) hP hD hS
set_option maxHeartbeats 4000000 in
set_option maxRecDepth 100000 in
theorem c_S_pointersTo (l : Launch) (D : va_G) (cI cZ : ClassId) (h_p0 h_p0_maps h_p0_tables h_p0_words h_p0_blank h_p0_queue : Nat) (F : Nat) (maps : (Nat → Int32)) (tables : (Nat → Int32)) (words : (Nat → Int32)) (blank : (Nat → Int32)) (queue : (Nat → Int32)) (x1 : Int32) (x2 : Int32) (r : Int32) (h : s_S_pointersTo F tables x1 x2 = some r) : sc_i l y_S_pointersTo (o_S_pointersTo :: wA) rm_S_pointersTo D cI cZ [.ref h_p0, .int x1, .int x2] (w_S cI cZ h_p0 h_p0_maps h_p0_tables h_p0_words h_p0_blank h_p0_queue maps tables words blank queue) (w_S cI cZ h_p0 h_p0_maps h_p0_tables h_p0_words h_p0_blank h_p0_queue maps tables words blank queue) r := by
  refine sc_i_of (cc := b_S_pointersTo) (maxL := 6) (ret := (some .int)) (by decide) rfl (Nat.le_of_ble_eq_true rfl) ?_
  intro p e s m below meth c A cf hr hlk hK hN hA H locs ls hl hP hD hS
  have hx := cf.1
  have hb := cf.2.1
  have hown := cf.2.2.2.1
  have ht : ∀ w ∈ wA, w.before _ s = true := fun w h => cf.2.2.2.2 w (List.mem_cons_of_mem _ h)
  unfold s_S_pointersTo at h
  have hl : lv_has ls 6 [(0, .ref h_p0), (1, .int x1), (2, .int x2)] := hl
  refine lv_iconst (v := (nI 0)) hx hb d_S_pointersTo_0 (by decide) ?_
  refine lv_istore_n (lv' := [(3, .int (nI 0)), (0, .ref h_p0), (1, .int x1), (2, .int x2)]) hx hb d_S_pointersTo_1 rfl hl (by decide) rfl (fun ls hl => ?_)
  refine lv_iconst (v := (nI 0)) hx hb d_S_pointersTo_2 (by decide) ?_
  refine lv_istore (lv' := [(4, .int (nI 0)), (3, .int (nI 0)), (0, .ref h_p0), (1, .int x1), (2, .int x2)]) hx hb d_S_pointersTo_3 hl (by decide) rfl (fun ls hl => ?_)
  exact w_S_pointersTo_5 h_p0 h_p0_maps h_p0_tables h_p0_words h_p0_blank h_p0_queue F maps tables words blank queue r ⟨cf, hr, hlk, hK, hN, hA⟩ F x1 x2 (nI 0) (nI 0) h H locs ls (lv_sub hl [2, 3, 4, 1, 0] rfl) hP hD hS
set_option maxHeartbeats 4000000 in
set_option maxRecDepth 100000 in
theorem w_S_badPointers_4 {p : Program} {l : Launch} {e : Env} {s : State} {m : MethodId} {args : Array Value} {below : List Frame} {meth : Method} {c : Code} {D : va_G} {cI cZ : ClassId} {A : Nat → Prop} (h_p0 h_p0_maps h_p0_tables h_p0_words h_p0_blank h_p0_queue : Nat) (F : Nat) (maps : (Nat → Int32)) (tables : (Nat → Int32)) (words : (Nat → Int32)) (blank : (Nat → Int32)) (queue : (Nat → Int32)) (r : Int32) (cx : cx_ok p s m args meth c b_S_badPointers 4 o_S_badPointers "OrderedVolume$Store" (some .int) D cI cZ A) : ∀ (n : Nat) (x1 : Int32) (x2 : Int32) (x3 : Int32), s_S_badPointers_4 F maps tables n x1 x2 x3 = some r → wk_G p l e rm_S_badPointers s m args below meth c (sc_Qi below args s D cI cZ A (w_S cI cZ h_p0 h_p0_maps h_p0_tables h_p0_words h_p0_blank h_p0_queue maps tables words blank queue) r) D A 4 4 [] [(0, .ref h_p0), (1, .int x1), (2, .int x2), (3, .int x3)] (w_S cI cZ h_p0 h_p0_maps h_p0_tables h_p0_words h_p0_blank h_p0_queue maps tables words blank queue) := by
  obtain ⟨cf, hr, hlk, hK, hN, hA⟩ := cx
  have hx := cf.1
  have hb := cf.2.1
  have hown := cf.2.2.2.1
  have ht : ∀ w ∈ wA, w.before args s = true := fun w h => cf.2.2.2.2 w (List.mem_cons_of_mem _ h)
  intro n
  induction n with
  | zero => intro x1 x2 x3 h; cases (show (none : Option (Int32)) = some _ from h)
  | succ n ih =>
    intro x1 x2 x3 h H locs ls hl hP hD hS
    unfold s_S_badPointers_4 at h
    refine lv_iload_n hx hb d_S_badPointers_4 rfl (lv_at hl 3 rfl) ?_
    refine lv_bipush (v := (nI 36)) hx hb d_S_badPointers_5 (by decide) ?_
    refine lv_icmp_ge hx hb d_S_badPointers_7 rfl (fun hc => ?_) (fun hc => ?_)
    · rw [if_pos hc] at h
      refine lv_iload_n hx hb d_S_badPointers_40 rfl (lv_at hl 2 rfl) ?_
      cases h
      exact sc_iret cf hr hlk hK hP hD hS d_S_badPointers_41
    · rw [if_neg hc] at h
      refine lv_iload_n hx hb d_S_badPointers_10 rfl (lv_at hl 3 rfl) ?_
      obtain ⟨r11, h11, h⟩ := bd_some h
      refine wk_Ni (As := [.int x3]) (rest := []) (wc := []) (w1 := []) (wr := [(h_p0, .inr (0, [.ref h_p0_maps, .ref h_p0_tables, .ref h_p0_words, .ref h_p0_blank, .ref h_p0_queue])), (h_p0_maps, .inl (cI, 48, .inl maps)), (h_p0_tables, .inl (cI, 90, .inl tables)), (h_p0_words, .inl (cI, 288, .inl words)), (h_p0_blank, .inl (cZ, 36, .inl blank)), (h_p0_queue, .inl (cI, 18, .inl queue))]) (wz := (w_S cI cZ h_p0 h_p0_maps h_p0_tables h_p0_words h_p0_blank h_p0_queue maps tables words blank queue)) cf hK hN hA (c_V_isData l D cI cZ 0 x3 r11 h11) k_S_85 hN.2.2.2 ⟨rfl, rfl, by decide, by decide⟩ hl hP hD hS [] [0, 1, 2, 3, 4, 5] [0, 1, 2, 3, 4, 5] rfl rfl rfl (by decide) rfl rfl rfl rfl rfl (Nat.le_of_ble_eq_true rfl) rfl d_S_badPointers_11 (fun H locs hP hD hS => ?_)
      refine lv_if_eq hx hb d_S_badPointers_14 rfl (fun hc => ?_) (fun hc => ?_)
      · rw [if_pos hc] at h
        refine lv_iinc (k := 3) (v := (x3 + (nI 1))) (lv' := [(3, .int (x3 + (nI 1))), (0, .ref h_p0), (1, .int x1), (2, .int x2)]) hx hb d_S_badPointers_34 hl rfl rfl (by decide) rfl (fun ls hl => ?_)
        refine lv_goto hx hb d_S_badPointers_37 rfl ?_
        exact ih x1 x2 (x3 + (nI 1)) h H locs ls (lv_sub hl [1, 2, 3, 0] rfl) hP hD hS
      · rw [if_neg hc] at h
        refine lv_aload_n hx hb d_S_badPointers_17 rfl (lv_at hl 0 rfl) ?_
        refine lv_iload_n hx hb d_S_badPointers_18 rfl (lv_at hl 3 rfl) ?_
        obtain ⟨r19, h19, h⟩ := bd_some h
        refine wk_Vi (As := [.int x3]) (rest := []) (wc := (w_S cI cZ h_p0 h_p0_maps h_p0_tables h_p0_words h_p0_blank h_p0_queue maps tables words blank queue)) (w1 := (w_S cI cZ h_p0 h_p0_maps h_p0_tables h_p0_words h_p0_blank h_p0_queue maps tables words blank queue)) (wr := []) (wz := (w_S cI cZ h_p0 h_p0_maps h_p0_tables h_p0_words h_p0_blank h_p0_queue maps tables words blank queue)) cf hK hN hA (c_S_blockMark l D cI cZ h_p0 h_p0_maps h_p0_tables h_p0_words h_p0_blank h_p0_queue maps tables words blank queue x3 r19 h19) k_S_79 ⟨rfl, rfl, by decide, by decide⟩ 0 rfl rfl rfl hl hP hD hS [0, 1, 2, 3, 4, 5] [] [0, 1, 2, 3, 4, 5] rfl rfl rfl (by decide) rfl rfl rfl rfl rfl (Nat.le_of_ble_eq_true rfl) rfl d_S_badPointers_19 (fun H locs hP hD hS => ?_)
        refine lv_if_ne hx hb d_S_badPointers_22 rfl (fun hc => ?_) (fun hc => ?_)
        · rw [if_neg hc] at h
          refine lv_iinc (k := 3) (v := (x3 + (nI 1))) (lv' := [(3, .int (x3 + (nI 1))), (0, .ref h_p0), (1, .int x1), (2, .int x2)]) hx hb d_S_badPointers_34 hl rfl rfl (by decide) rfl (fun ls hl => ?_)
          refine lv_goto hx hb d_S_badPointers_37 rfl ?_
          exact ih x1 x2 (x3 + (nI 1)) h H locs ls (lv_sub hl [1, 2, 3, 0] rfl) hP hD hS
        · rw [if_pos hc] at h
          refine lv_iload_n hx hb d_S_badPointers_25 rfl (lv_at hl 2 rfl) ?_
          refine lv_aload_n hx hb d_S_badPointers_26 rfl (lv_at hl 0 rfl) ?_
          refine lv_iload_n hx hb d_S_badPointers_27 rfl (lv_at hl 1 rfl) ?_
          refine lv_iload_n hx hb d_S_badPointers_28 rfl (lv_at hl 3 rfl) ?_
          obtain ⟨r29, h29, h⟩ := bd_some h
          refine wk_Vi (As := [.int x1, .int x3]) (rest := [.int x2]) (wc := (w_S cI cZ h_p0 h_p0_maps h_p0_tables h_p0_words h_p0_blank h_p0_queue maps tables words blank queue)) (w1 := (w_S cI cZ h_p0 h_p0_maps h_p0_tables h_p0_words h_p0_blank h_p0_queue maps tables words blank queue)) (wr := []) (wz := (w_S cI cZ h_p0 h_p0_maps h_p0_tables h_p0_words h_p0_blank h_p0_queue maps tables words blank queue)) cf hK hN hA (c_S_pointersTo l D cI cZ h_p0 h_p0_maps h_p0_tables h_p0_words h_p0_blank h_p0_queue F maps tables words blank queue x1 x3 r29 h29) k_S_88 ⟨rfl, rfl, by decide, by decide⟩ 0 rfl rfl rfl hl hP hD hS [0, 1, 2, 3, 4, 5] [] [0, 1, 2, 3, 4, 5] rfl rfl rfl (by decide) rfl rfl rfl rfl rfl (Nat.le_of_ble_eq_true rfl) rfl d_S_badPointers_29 (fun H locs hP hD hS => ?_)
          refine lv_iadd hx hb d_S_badPointers_32 ?_
          refine lv_istore_n (lv' := [(2, .int (x2 + r29)), (0, .ref h_p0), (1, .int x1), (3, .int x3)]) hx hb d_S_badPointers_33 rfl hl (by decide) rfl (fun ls hl => ?_)
          refine lv_iinc (k := 3) (v := (x3 + (nI 1))) (lv' := [(3, .int (x3 + (nI 1))), (2, .int (x2 + r29)), (0, .ref h_p0), (1, .int x1)]) hx hb d_S_badPointers_34 hl rfl rfl (by decide) rfl (fun ls hl => ?_)
          refine lv_goto hx hb d_S_badPointers_37 rfl ?_
          exact ih x1 (x2 + r29) (x3 + (nI 1)) h H locs ls (lv_sub hl [2, 3, 1, 0] rfl) hP hD hS
set_option maxHeartbeats 4000000 in
set_option maxRecDepth 100000 in
theorem c_S_badPointers (l : Launch) (D : va_G) (cI cZ : ClassId) (h_p0 h_p0_maps h_p0_tables h_p0_words h_p0_blank h_p0_queue : Nat) (F : Nat) (maps : (Nat → Int32)) (tables : (Nat → Int32)) (words : (Nat → Int32)) (blank : (Nat → Int32)) (queue : (Nat → Int32)) (x1 : Int32) (r : Int32) (h : s_S_badPointers F maps tables x1 = some r) : sc_i l y_S_badPointers (o_S_badPointers :: wA) rm_S_badPointers D cI cZ [.ref h_p0, .int x1] (w_S cI cZ h_p0 h_p0_maps h_p0_tables h_p0_words h_p0_blank h_p0_queue maps tables words blank queue) (w_S cI cZ h_p0 h_p0_maps h_p0_tables h_p0_words h_p0_blank h_p0_queue maps tables words blank queue) r := by
  refine sc_i_of (cc := b_S_badPointers) (maxL := 4) (ret := (some .int)) (by decide) rfl (Nat.le_of_ble_eq_true rfl) ?_
  intro p e s m below meth c A cf hr hlk hK hN hA H locs ls hl hP hD hS
  have hx := cf.1
  have hb := cf.2.1
  have hown := cf.2.2.2.1
  have ht : ∀ w ∈ wA, w.before _ s = true := fun w h => cf.2.2.2.2 w (List.mem_cons_of_mem _ h)
  unfold s_S_badPointers at h
  have hl : lv_has ls 4 [(0, .ref h_p0), (1, .int x1)] := hl
  refine lv_iconst (v := (nI 0)) hx hb d_S_badPointers_0 (by decide) ?_
  refine lv_istore_n (lv' := [(2, .int (nI 0)), (0, .ref h_p0), (1, .int x1)]) hx hb d_S_badPointers_1 rfl hl (by decide) rfl (fun ls hl => ?_)
  refine lv_iconst (v := (nI 0)) hx hb d_S_badPointers_2 (by decide) ?_
  refine lv_istore_n (lv' := [(3, .int (nI 0)), (2, .int (nI 0)), (0, .ref h_p0), (1, .int x1)]) hx hb d_S_badPointers_3 rfl hl (by decide) rfl (fun ls hl => ?_)
  exact w_S_badPointers_4 h_p0 h_p0_maps h_p0_tables h_p0_words h_p0_blank h_p0_queue F maps tables words blank queue r ⟨cf, hr, hlk, hK, hN, hA⟩ F x1 (nI 0) (nI 0) h H locs ls (lv_sub hl [2, 3, 1, 0] rfl) hP hD hS
set_option maxHeartbeats 4000000 in
set_option maxRecDepth 100000 in
theorem c_S_cell (l : Launch) (D : va_G) (cI cZ : ClassId) (h_p0 h_p0_maps h_p0_tables h_p0_words h_p0_blank h_p0_queue : Nat) (maps : (Nat → Int32)) (tables : (Nat → Int32)) (words : (Nat → Int32)) (blank : (Nat → Int32)) (queue : (Nat → Int32)) (x1 : Int32) (x2 : Int32) (r : Int32) (h : s_S_cell maps tables words x1 x2 = some r) : sc_i l y_S_cell (o_S_cell :: wA) rm_S_cell D cI cZ [.ref h_p0, .int x1, .int x2] (w_S cI cZ h_p0 h_p0_maps h_p0_tables h_p0_words h_p0_blank h_p0_queue maps tables words blank queue) (w_S cI cZ h_p0 h_p0_maps h_p0_tables h_p0_words h_p0_blank h_p0_queue maps tables words blank queue) r := by
  refine sc_i_of (cc := b_S_cell) (maxL := 5) (ret := (some .int)) (by decide) rfl (Nat.le_of_ble_eq_true rfl) ?_
  intro p e s m below meth c A cf hr hlk hK hN hA H locs ls hl hP hD hS
  have hx := cf.1
  have hb := cf.2.1
  have hown := cf.2.2.2.1
  have ht : ∀ w ∈ wA, w.before _ s = true := fun w h => cf.2.2.2.2 w (List.mem_cons_of_mem _ h)
  unfold s_S_cell at h
  have hl : lv_has ls 5 [(0, .ref h_p0), (1, .int x1), (2, .int x2)] := hl
  refine lv_iload_n hx hb d_S_cell_0 rfl (lv_at hl 1 rfl) ?_
  refine lv_bipush (v := (nI 12)) hx hb d_S_cell_1 (by decide) ?_
  refine lv_idiv hx hb d_S_cell_3 (by decide) ?_
  refine lv_istore_n (lv' := [(3, .int (x1 / (nI 12))), (0, .ref h_p0), (1, .int x1), (2, .int x2)]) hx hb d_S_cell_4 rfl hl (by decide) rfl (fun ls hl => ?_)
  refine lv_iload_n hx hb d_S_cell_5 rfl (lv_at hl 2 rfl) ?_
  refine lv_bipush (v := (nI 12)) hx hb d_S_cell_6 (by decide) ?_
  refine lv_irem hx hb d_S_cell_8 (by decide) ?_
  refine lv_istore (lv' := [(4, .int (x1 - x1 / (nI 12) * (nI 12))), (3, .int (x1 / (nI 12))), (0, .ref h_p0), (1, .int x1), (2, .int x2)]) hx hb d_S_cell_9 hl (by decide) rfl (fun ls hl => ?_)
  refine lv_iload hx hb d_S_cell_11 (lv_at hl 0 rfl) ?_
  refine lv_if_ne hx hb d_S_cell_13 rfl (fun hc => ?_) (fun hc => ?_)
  · rw [if_neg hc] at h
    refine lv_iload hx hb d_S_cell_28 (lv_at hl 0 rfl) ?_
    refine lv_iconst (v := (nI 1)) hx hb d_S_cell_30 (by decide) ?_
    refine lv_icmp_ne hx hb d_S_cell_31 rfl (fun hc => ?_) (fun hc => ?_)
    · rw [if_neg hc] at h
      refine lv_aload_n hx hb d_S_cell_48 rfl (lv_at hl 2 rfl) ?_
      refine va_get (D := D) (ci := 0) (v := .ref h_p0_words) (C := R_S) (T := F_S) (N := 5) hx hb ht in_S hown hK hP 0 rfl rfl 2 (by decide) (ht _ f_S_18) (fun _ h9 => h9) rfl d_S_cell_49 ?_
      refine lv_iload_n hx hb d_S_cell_52 rfl (lv_at hl 3 rfl) ?_
      refine lv_bipush (v := (nI 8)) hx hb d_S_cell_53 (by decide) ?_
      refine lv_imul hx hb d_S_cell_55 ?_
      refine lv_iload_n hx hb d_S_cell_56 rfl (lv_at hl 4 rfl) ?_
      refine lv_iadd hx hb d_S_cell_57 ?_
      obtain ⟨hin, h⟩ := gr_some h
      refine va_iald hx hb hK hP 3 0 rfl rfl hin d_S_cell_58 ?_
      generalize words ((x1 * (nI 8)) + x2).toNatClampNeg = v58 at h ⊢
      cases h
      exact sc_iret cf hr hlk hK hP hD hS d_S_cell_59
    · rw [if_pos hc] at h
      refine lv_aload_n hx hb d_S_cell_34 rfl (lv_at hl 2 rfl) ?_
      refine va_get (D := D) (ci := 0) (v := .ref h_p0_tables) (C := R_S) (T := F_S) (N := 5) hx hb ht in_S hown hK hP 0 rfl rfl 1 (by decide) (ht _ f_S_15) (fun _ h9 => h9) rfl d_S_cell_35 ?_
      refine lv_iload_n hx hb d_S_cell_38 rfl (lv_at hl 1 rfl) ?_
      refine lv_bipush (v := (nI 30)) hx hb d_S_cell_39 (by decide) ?_
      refine lv_imul hx hb d_S_cell_41 ?_
      refine lv_iload_n hx hb d_S_cell_42 rfl (lv_at hl 4 rfl) ?_
      refine lv_iadd hx hb d_S_cell_43 ?_
      obtain ⟨hin, h⟩ := gr_some h
      refine va_iald hx hb hK hP 2 0 rfl rfl hin d_S_cell_44 ?_
      generalize tables (((x1 / (nI 12)) * (nI 30)) + x2).toNatClampNeg = v44 at h ⊢
      refine lv_goto hx hb d_S_cell_45 rfl ?_
      cases h
      exact sc_iret cf hr hlk hK hP hD hS d_S_cell_59
  · rw [if_pos hc] at h
    refine lv_aload_n hx hb d_S_cell_16 rfl (lv_at hl 2 rfl) ?_
    refine va_get (D := D) (ci := 0) (v := .ref h_p0_maps) (C := R_S) (T := F_S) (N := 5) hx hb ht in_S hown hK hP 0 rfl rfl 0 (by decide) (ht _ f_S_9) (fun _ h9 => h9) rfl d_S_cell_17 ?_
    refine lv_iload_n hx hb d_S_cell_20 rfl (lv_at hl 1 rfl) ?_
    refine lv_bipush (v := (nI 16)) hx hb d_S_cell_21 (by decide) ?_
    refine lv_imul hx hb d_S_cell_23 ?_
    refine lv_iload_n hx hb d_S_cell_24 rfl (lv_at hl 4 rfl) ?_
    refine lv_iadd hx hb d_S_cell_25 ?_
    obtain ⟨hin, h⟩ := gr_some h
    refine va_iald hx hb hK hP 1 0 rfl rfl hin d_S_cell_26 ?_
    generalize maps (((x1 / (nI 12)) * (nI 16)) + x2).toNatClampNeg = v26 at h ⊢
    cases h
    exact sc_iret cf hr hlk hK hP hD hS d_S_cell_27
set_option maxHeartbeats 4000000 in
set_option maxRecDepth 100000 in
theorem w_V_isName_16 {p : Program} {l : Launch} {e : Env} {s : State} {m : MethodId} {args : Array Value} {below : List Frame} {meth : Method} {c : Code} {D : va_G} {cI cZ : ClassId} {A : Nat → Prop} (z : Nat) (r : Int32) (cx : cx_ok p s m args meth c b_V_isName 1 o_V_isName "OrderedVolume" (some .boolean) D cI cZ A) : s_V_isName_16 = some r → wk_G p l e rm_V_isName s m args below meth c (sc_Qi below args s D cI cZ A [] r) D A 1 16 [] [] [] := by
  obtain ⟨cf, hr, hlk, hK, hN, hA⟩ := cx
  have hx := cf.1
  have hb := cf.2.1
  have hown := cf.2.2.2.1
  have ht : ∀ w ∈ wA, w.before args s = true := fun w h => cf.2.2.2.2 w (List.mem_cons_of_mem _ h)
  intro  h H locs ls hl hP hD hS
  unfold s_V_isName_16 at h
  refine lv_iconst (v := (nI 0)) hx hb d_V_isName_16 (by decide) ?_
  have hz : ((nI 0) : Int32) = 0 ∨ ((nI 0) : Int32) = 1 := by decide
  cases h
  exact sc_zret cf hr hlk hz hK hP hD hS d_V_isName_17
set_option maxHeartbeats 4000000 in
set_option maxRecDepth 100000 in
theorem c_V_isName (l : Launch) (D : va_G) (cI cZ : ClassId) (z : Nat) (x0 : Int32) (r : Int32) (h : s_V_isName x0 = some r) : sc_i l y_V_isName (o_V_isName :: wA) rm_V_isName D cI cZ [.int x0] [] [] r := by
  refine sc_i_of (cc := b_V_isName) (maxL := 1) (ret := (some .boolean)) (by decide) rfl (Nat.le_of_ble_eq_true rfl) ?_
  intro p e s m below meth c A cf hr hlk hK hN hA H locs ls hl hP hD hS
  have hx := cf.1
  have hb := cf.2.1
  have hown := cf.2.2.2.1
  have ht : ∀ w ∈ wA, w.before _ s = true := fun w h => cf.2.2.2.2 w (List.mem_cons_of_mem _ h)
  unfold s_V_isName at h
  have hl : lv_has ls 1 [(0, .int x0)] := hl
  refine lv_iload_n hx hb d_V_isName_0 rfl (lv_at hl 0 rfl) ?_
  refine lv_iconst (v := (nI 1)) hx hb d_V_isName_1 (by decide) ?_
  refine lv_icmp_lt hx hb d_V_isName_2 rfl (fun hc => ?_) (fun hc => ?_)
  · rw [if_pos hc] at h
    exact w_V_isName_16 0 r ⟨cf, hr, hlk, hK, hN, hA⟩ h H locs ls (lv_sub hl [] rfl) hP hD hS
  · rw [if_neg hc] at h
    refine lv_iload_n hx hb d_V_isName_5 rfl (lv_at hl 0 rfl) ?_
    refine lv_sipush (v := (nI 999)) hx hb d_V_isName_6 (by decide) ?_
    refine lv_icmp_gt hx hb d_V_isName_9 rfl (fun hc => ?_) (fun hc => ?_)
    · rw [if_pos hc] at h
      exact w_V_isName_16 0 r ⟨cf, hr, hlk, hK, hN, hA⟩ h H locs ls (lv_sub hl [] rfl) hP hD hS
    · rw [if_neg hc] at h
      refine lv_iconst (v := (nI 1)) hx hb d_V_isName_12 (by decide) ?_
      refine lv_goto hx hb d_V_isName_13 rfl ?_
      have hz : ((nI 1) : Int32) = 0 ∨ ((nI 1) : Int32) = 1 := by decide
      cases h
      exact sc_zret cf hr hlk hz hK hP hD hS d_V_isName_17
set_option maxHeartbeats 4000000 in
set_option maxRecDepth 100000 in
theorem w_S_cellOfName_11 {p : Program} {l : Launch} {e : Env} {s : State} {m : MethodId} {args : Array Value} {below : List Frame} {meth : Method} {c : Code} {D : va_G} {cI cZ : ClassId} {A : Nat → Prop} (h_p0 h_p0_maps h_p0_tables h_p0_words h_p0_blank h_p0_queue : Nat) (F : Nat) (maps : (Nat → Int32)) (tables : (Nat → Int32)) (words : (Nat → Int32)) (blank : (Nat → Int32)) (queue : (Nat → Int32)) (r : Int32) (cx : cx_ok p s m args meth c b_S_cellOfName 4 o_S_cellOfName "OrderedVolume$Store" (some .int) D cI cZ A) : ∀ (n : Nat) (x1 : Int32) (x2 : Int32) (x3 : Int32), s_S_cellOfName_11 F tables words blank n x1 x2 x3 = some r → wk_G p l e rm_S_cellOfName s m args below meth c (sc_Qi below args s D cI cZ A (w_S cI cZ h_p0 h_p0_maps h_p0_tables h_p0_words h_p0_blank h_p0_queue maps tables words blank queue) r) D A 4 11 [] [(0, .ref h_p0), (1, .int x1), (2, .int x2), (3, .int x3)] (w_S cI cZ h_p0 h_p0_maps h_p0_tables h_p0_words h_p0_blank h_p0_queue maps tables words blank queue) := by
  obtain ⟨cf, hr, hlk, hK, hN, hA⟩ := cx
  have hx := cf.1
  have hb := cf.2.1
  have hown := cf.2.2.2.1
  have ht : ∀ w ∈ wA, w.before args s = true := fun w h => cf.2.2.2.2 w (List.mem_cons_of_mem _ h)
  intro n
  induction n with
  | zero => intro x1 x2 x3 h; cases (show (none : Option (Int32)) = some _ from h)
  | succ n ih =>
    intro x1 x2 x3 h H locs ls hl hP hD hS
    unfold s_S_cellOfName_11 at h
    refine lv_iload_n hx hb d_S_cellOfName_11 rfl (lv_at hl 3 rfl) ?_
    refine lv_bipush (v := (nI 8)) hx hb d_S_cellOfName_12 (by decide) ?_
    refine lv_icmp_ge hx hb d_S_cellOfName_14 rfl (fun hc => ?_) (fun hc => ?_)
    · rw [if_pos hc] at h
      refine lv_iconst (v := (-1)) hx hb d_S_cellOfName_38 (by decide) ?_
      cases h
      exact sc_iret cf hr hlk hK hP hD hS d_S_cellOfName_39
    · rw [if_neg hc] at h
      refine lv_aload_n hx hb d_S_cellOfName_17 rfl (lv_at hl 0 rfl) ?_
      refine lv_iload_n hx hb d_S_cellOfName_18 rfl (lv_at hl 1 rfl) ?_
      refine lv_iload_n hx hb d_S_cellOfName_19 rfl (lv_at hl 3 rfl) ?_
      obtain ⟨r20, h20, h⟩ := bd_some h
      refine wk_Vi (As := [.int x1, .int x3]) (rest := []) (wc := (w_S cI cZ h_p0 h_p0_maps h_p0_tables h_p0_words h_p0_blank h_p0_queue maps tables words blank queue)) (w1 := (w_S cI cZ h_p0 h_p0_maps h_p0_tables h_p0_words h_p0_blank h_p0_queue maps tables words blank queue)) (wr := []) (wz := (w_S cI cZ h_p0 h_p0_maps h_p0_tables h_p0_words h_p0_blank h_p0_queue maps tables words blank queue)) cf hK hN hA (c_S_entry l D cI cZ h_p0 h_p0_maps h_p0_tables h_p0_words h_p0_blank h_p0_queue maps tables words blank queue x1 x3 r20 h20) k_S_56 ⟨rfl, rfl, by decide, by decide⟩ 0 rfl rfl rfl hl hP hD hS [0, 1, 2, 3, 4, 5] [] [0, 1, 2, 3, 4, 5] rfl rfl rfl (by decide) rfl rfl rfl rfl rfl (Nat.le_of_ble_eq_true rfl) rfl d_S_cellOfName_20 (fun H locs hP hD hS => ?_)
      refine lv_bipush (v := (nI 32)) hx hb d_S_cellOfName_23 (by decide) ?_
      refine lv_idiv hx hb d_S_cellOfName_25 (by decide) ?_
      refine lv_iload_n hx hb d_S_cellOfName_26 rfl (lv_at hl 2 rfl) ?_
      refine lv_icmp_ne hx hb d_S_cellOfName_27 rfl (fun hc => ?_) (fun hc => ?_)
      · rw [if_neg hc] at h
        refine lv_iinc (k := 3) (v := (x3 + (nI 1))) (lv' := [(3, .int (x3 + (nI 1))), (0, .ref h_p0), (1, .int x1), (2, .int x2)]) hx hb d_S_cellOfName_32 hl rfl rfl (by decide) rfl (fun ls hl => ?_)
        refine lv_goto hx hb d_S_cellOfName_35 rfl ?_
        exact ih x1 x2 (x3 + (nI 1)) h H locs ls (lv_sub hl [1, 2, 3, 0] rfl) hP hD hS
      · rw [if_pos hc] at h
        refine lv_iload_n hx hb d_S_cellOfName_30 rfl (lv_at hl 3 rfl) ?_
        cases h
        exact sc_iret cf hr hlk hK hP hD hS d_S_cellOfName_31
set_option maxHeartbeats 4000000 in
set_option maxRecDepth 100000 in
theorem c_S_cellOfName (l : Launch) (D : va_G) (cI cZ : ClassId) (h_p0 h_p0_maps h_p0_tables h_p0_words h_p0_blank h_p0_queue : Nat) (F : Nat) (maps : (Nat → Int32)) (tables : (Nat → Int32)) (words : (Nat → Int32)) (blank : (Nat → Int32)) (queue : (Nat → Int32)) (x1 : Int32) (x2 : Int32) (r : Int32) (h : s_S_cellOfName F tables words blank x1 x2 = some r) : sc_i l y_S_cellOfName (o_S_cellOfName :: wA) rm_S_cellOfName D cI cZ [.ref h_p0, .int x1, .int x2] (w_S cI cZ h_p0 h_p0_maps h_p0_tables h_p0_words h_p0_blank h_p0_queue maps tables words blank queue) (w_S cI cZ h_p0 h_p0_maps h_p0_tables h_p0_words h_p0_blank h_p0_queue maps tables words blank queue) r := by
  refine sc_i_of (cc := b_S_cellOfName) (maxL := 4) (ret := (some .int)) (by decide) rfl (Nat.le_of_ble_eq_true rfl) ?_
  intro p e s m below meth c A cf hr hlk hK hN hA H locs ls hl hP hD hS
  have hx := cf.1
  have hb := cf.2.1
  have hown := cf.2.2.2.1
  have ht : ∀ w ∈ wA, w.before _ s = true := fun w h => cf.2.2.2.2 w (List.mem_cons_of_mem _ h)
  unfold s_S_cellOfName at h
  have hl : lv_has ls 4 [(0, .ref h_p0), (1, .int x1), (2, .int x2)] := hl
  refine lv_iload_n hx hb d_S_cellOfName_0 rfl (lv_at hl 2 rfl) ?_
  obtain ⟨r1, h1, h⟩ := bd_some h
  refine wk_Ni (As := [.int x2]) (rest := []) (wc := []) (w1 := []) (wr := [(h_p0, .inr (0, [.ref h_p0_maps, .ref h_p0_tables, .ref h_p0_words, .ref h_p0_blank, .ref h_p0_queue])), (h_p0_maps, .inl (cI, 48, .inl maps)), (h_p0_tables, .inl (cI, 90, .inl tables)), (h_p0_words, .inl (cI, 288, .inl words)), (h_p0_blank, .inl (cZ, 36, .inl blank)), (h_p0_queue, .inl (cI, 18, .inl queue))]) (wz := (w_S cI cZ h_p0 h_p0_maps h_p0_tables h_p0_words h_p0_blank h_p0_queue maps tables words blank queue)) cf hK hN hA (c_V_isName l D cI cZ 0 x2 r1 h1) k_S_59 hN.2.1 ⟨rfl, rfl, by decide, by decide⟩ hl hP hD hS [] [0, 1, 2, 3, 4, 5] [0, 1, 2, 3, 4, 5] rfl rfl rfl (by decide) rfl rfl rfl rfl rfl (Nat.le_of_ble_eq_true rfl) rfl d_S_cellOfName_1 (fun H locs hP hD hS => ?_)
  refine lv_if_ne hx hb d_S_cellOfName_4 rfl (fun hc => ?_) (fun hc => ?_)
  · rw [if_neg hc] at h
    refine lv_iconst (v := (nI 0)) hx hb d_S_cellOfName_9 (by decide) ?_
    refine lv_istore_n (lv' := [(3, .int (nI 0)), (0, .ref h_p0), (1, .int x1), (2, .int x2)]) hx hb d_S_cellOfName_10 rfl hl (by decide) rfl (fun ls hl => ?_)
    exact w_S_cellOfName_11 h_p0 h_p0_maps h_p0_tables h_p0_words h_p0_blank h_p0_queue F maps tables words blank queue r ⟨cf, hr, hlk, hK, hN, hA⟩ F x1 x2 (nI 0) h H locs ls (lv_sub hl [1, 2, 3, 0] rfl) hP hD hS
  · rw [if_pos hc] at h
    refine lv_iconst (v := (-1)) hx hb d_S_cellOfName_7 (by decide) ?_
    cases h
    exact sc_iret cf hr hlk hK hP hD hS d_S_cellOfName_8
set_option maxHeartbeats 4000000 in
set_option maxRecDepth 100000 in
theorem w_S_clearWords_2 {p : Program} {l : Launch} {e : Env} {s : State} {m : MethodId} {args : Array Value} {below : List Frame} {meth : Method} {c : Code} {D : va_G} {cI cZ : ClassId} {A : Nat → Prop} (h_p0 h_p0_maps h_p0_tables h_p0_words h_p0_blank h_p0_queue : Nat) (F : Nat) (maps : (Nat → Int32)) (tables : (Nat → Int32)) (blank : (Nat → Int32)) (queue : (Nat → Int32)) (words' : (Nat → Int32)) (cx : cx_ok p s m args meth c b_S_clearWords 3 o_S_clearWords "OrderedVolume$Store" none D cI cZ A) : ∀ (n : Nat) (x1 : Int32) (x2 : Int32) (words : (Nat → Int32)), s_S_clearWords_2 F n x1 x2 words = some words' → wk_G p l e rm_S_clearWords s m args below meth c (sc_Qv below args s D cI cZ A (w_S cI cZ h_p0 h_p0_maps h_p0_tables h_p0_words h_p0_blank h_p0_queue maps tables (words') blank queue)) D A 3 2 [] [(0, .ref h_p0), (1, .int x1), (2, .int x2)] (w_S cI cZ h_p0 h_p0_maps h_p0_tables h_p0_words h_p0_blank h_p0_queue maps tables words blank queue) := by
  obtain ⟨cf, hr, hlk, hK, hN, hA⟩ := cx
  have hx := cf.1
  have hb := cf.2.1
  have hown := cf.2.2.2.1
  have ht : ∀ w ∈ wA, w.before args s = true := fun w h => cf.2.2.2.2 w (List.mem_cons_of_mem _ h)
  intro n
  induction n with
  | zero => intro x1 x2 words h; cases (show (none : Option ((Nat → Int32))) = some _ from h)
  | succ n ih =>
    intro x1 x2 words h H locs ls hl hP hD hS
    unfold s_S_clearWords_2 at h
    refine lv_iload_n hx hb d_S_clearWords_2 rfl (lv_at hl 2 rfl) ?_
    refine lv_bipush (v := (nI 8)) hx hb d_S_clearWords_3 (by decide) ?_
    refine lv_icmp_ge hx hb d_S_clearWords_5 rfl (fun hc => ?_) (fun hc => ?_)
    · rw [if_pos hc] at h
      cases h
      exact sc_vret cf hr hlk hK hP hD hS d_S_clearWords_26
    · rw [if_neg hc] at h
      refine lv_aload_n hx hb d_S_clearWords_8 rfl (lv_at hl 0 rfl) ?_
      refine va_get (D := D) (ci := 0) (v := .ref h_p0_words) (C := R_S) (T := F_S) (N := 5) hx hb ht in_S hown hK hP 0 rfl rfl 2 (by decide) (ht _ f_S_18) (fun _ h9 => h9) rfl d_S_clearWords_9 ?_
      refine lv_iload_n hx hb d_S_clearWords_12 rfl (lv_at hl 1 rfl) ?_
      refine lv_bipush (v := (nI 8)) hx hb d_S_clearWords_13 (by decide) ?_
      refine lv_imul hx hb d_S_clearWords_15 ?_
      refine lv_iload_n hx hb d_S_clearWords_16 rfl (lv_at hl 2 rfl) ?_
      refine lv_iadd hx hb d_S_clearWords_17 ?_
      refine lv_iconst (v := (nI 0)) hx hb d_S_clearWords_18 (by decide) ?_
      obtain ⟨hin, h⟩ := ga_some h
      refine va_iast hx hb hK hP hD hS 3 0 rfl rfl hin d_S_clearWords_19 (fun H locs hP hD hS => ?_)
      have hP : va_P D clA (w_S cI cZ h_p0 h_p0_maps h_p0_tables h_p0_words h_p0_blank h_p0_queue maps tables (upd words ((x1 * (nI 8)) + x2).toNatClampNeg (nI 0)) blank queue) H := hP
      have hD : va_D A (w_S cI cZ h_p0 h_p0_maps h_p0_tables h_p0_words h_p0_blank h_p0_queue maps tables (upd words ((x1 * (nI 8)) + x2).toNatClampNeg (nI 0)) blank queue) := hD
      refine lv_iinc (k := 2) (v := (x2 + (nI 1))) (lv' := [(2, .int (x2 + (nI 1))), (0, .ref h_p0), (1, .int x1)]) hx hb d_S_clearWords_20 hl rfl rfl (by decide) rfl (fun ls hl => ?_)
      refine lv_goto hx hb d_S_clearWords_23 rfl ?_
      exact ih x1 (x2 + (nI 1)) (upd words ((x1 * (nI 8)) + x2).toNatClampNeg (nI 0)) h H locs ls (lv_sub hl [1, 2, 0] rfl) hP hD hS
set_option maxHeartbeats 4000000 in
set_option maxRecDepth 100000 in
theorem c_S_clearWords (l : Launch) (D : va_G) (cI cZ : ClassId) (h_p0 h_p0_maps h_p0_tables h_p0_words h_p0_blank h_p0_queue : Nat) (F : Nat) (maps : (Nat → Int32)) (tables : (Nat → Int32)) (words : (Nat → Int32)) (blank : (Nat → Int32)) (queue : (Nat → Int32)) (words' : (Nat → Int32)) (x1 : Int32) (h : s_S_clearWords F x1 words = some words') : sc_v l y_S_clearWords (o_S_clearWords :: wA) rm_S_clearWords D cI cZ [.ref h_p0, .int x1] (w_S cI cZ h_p0 h_p0_maps h_p0_tables h_p0_words h_p0_blank h_p0_queue maps tables words blank queue) (w_S cI cZ h_p0 h_p0_maps h_p0_tables h_p0_words h_p0_blank h_p0_queue maps tables (words') blank queue) := by
  refine sc_v_of (cc := b_S_clearWords) (maxL := 3) (ret := none) (by decide) rfl (Nat.le_of_ble_eq_true rfl) ?_
  intro p e s m below meth c A cf hr hlk hK hN hA H locs ls hl hP hD hS
  have hx := cf.1
  have hb := cf.2.1
  have hown := cf.2.2.2.1
  have ht : ∀ w ∈ wA, w.before _ s = true := fun w h => cf.2.2.2.2 w (List.mem_cons_of_mem _ h)
  unfold s_S_clearWords at h
  have hl : lv_has ls 3 [(0, .ref h_p0), (1, .int x1)] := hl
  refine lv_iconst (v := (nI 0)) hx hb d_S_clearWords_0 (by decide) ?_
  refine lv_istore_n (lv' := [(2, .int (nI 0)), (0, .ref h_p0), (1, .int x1)]) hx hb d_S_clearWords_1 rfl hl (by decide) rfl (fun ls hl => ?_)
  exact w_S_clearWords_2 h_p0 h_p0_maps h_p0_tables h_p0_words h_p0_blank h_p0_queue F maps tables blank queue words' ⟨cf, hr, hlk, hK, hN, hA⟩ F x1 (nI 0) words h H locs ls (lv_sub hl [1, 2, 0] rfl) hP hD hS
set_option maxHeartbeats 4000000 in
set_option maxRecDepth 100000 in
theorem c_V_cellCount (l : Launch) (D : va_G) (cI cZ : ClassId) (z : Nat) (x0 : Int32) (r : Int32) (h : s_V_cellCount x0 = some r) : sc_i l y_V_cellCount (o_V_cellCount :: wA) rm_V_cellCount D cI cZ [.int x0] [] [] r := by
  refine sc_i_of (cc := b_V_cellCount) (maxL := 2) (ret := (some .int)) (by decide) rfl (Nat.le_of_ble_eq_true rfl) ?_
  intro p e s m below meth c A cf hr hlk hK hN hA H locs ls hl hP hD hS
  have hx := cf.1
  have hb := cf.2.1
  have hown := cf.2.2.2.1
  have ht : ∀ w ∈ wA, w.before _ s = true := fun w h => cf.2.2.2.2 w (List.mem_cons_of_mem _ h)
  unfold s_V_cellCount at h
  have hl : lv_has ls 2 [(0, .int x0)] := hl
  refine lv_iload_n hx hb d_V_cellCount_0 rfl (lv_at hl 0 rfl) ?_
  refine lv_bipush (v := (nI 12)) hx hb d_V_cellCount_1 (by decide) ?_
  refine lv_irem hx hb d_V_cellCount_3 (by decide) ?_
  refine lv_istore_n (lv' := [(1, .int (x0 - x0 / (nI 12) * (nI 12))), (0, .int x0)]) hx hb d_V_cellCount_4 rfl hl (by decide) rfl (fun ls hl => ?_)
  refine lv_iload_n hx hb d_V_cellCount_5 rfl (lv_at hl 0 rfl) ?_
  refine lv_if_ne hx hb d_V_cellCount_6 rfl (fun hc => ?_) (fun hc => ?_)
  · rw [if_neg hc] at h
    refine lv_iload_n hx hb d_V_cellCount_14 rfl (lv_at hl 0 rfl) ?_
    refine lv_iconst (v := (nI 1)) hx hb d_V_cellCount_15 (by decide) ?_
    refine lv_icmp_ne hx hb d_V_cellCount_16 rfl (fun hc => ?_) (fun hc => ?_)
    · rw [if_neg hc] at h
      refine lv_bipush (v := (nI 8)) hx hb d_V_cellCount_24 (by decide) ?_
      cases h
      exact sc_iret cf hr hlk hK hP hD hS d_V_cellCount_26
    · rw [if_pos hc] at h
      refine lv_bipush (v := (nI 30)) hx hb d_V_cellCount_19 (by decide) ?_
      refine lv_goto hx hb d_V_cellCount_21 rfl ?_
      cases h
      exact sc_iret cf hr hlk hK hP hD hS d_V_cellCount_26
  · rw [if_pos hc] at h
    refine lv_bipush (v := (nI 16)) hx hb d_V_cellCount_9 (by decide) ?_
    refine lv_goto hx hb d_V_cellCount_11 rfl ?_
    cases h
    exact sc_iret cf hr hlk hK hP hD hS d_V_cellCount_26
set_option maxHeartbeats 4000000 in
set_option maxRecDepth 100000 in
theorem c_S_setCell (l : Launch) (D : va_G) (cI cZ : ClassId) (h_p0 h_p0_maps h_p0_tables h_p0_words h_p0_blank h_p0_queue : Nat) (maps : (Nat → Int32)) (tables : (Nat → Int32)) (words : (Nat → Int32)) (blank : (Nat → Int32)) (queue : (Nat → Int32)) (maps' : (Nat → Int32)) (tables' : (Nat → Int32)) (words' : (Nat → Int32)) (x1 : Int32) (x2 : Int32) (x3 : Int32) (h : s_S_setCell x1 x2 x3 maps tables words = some (maps', tables', words')) : sc_v l y_S_setCell (o_S_setCell :: wA) rm_S_setCell D cI cZ [.ref h_p0, .int x1, .int x2, .int x3] (w_S cI cZ h_p0 h_p0_maps h_p0_tables h_p0_words h_p0_blank h_p0_queue maps tables words blank queue) (w_S cI cZ h_p0 h_p0_maps h_p0_tables h_p0_words h_p0_blank h_p0_queue (maps') (tables') (words') blank queue) := by
  refine sc_v_of (cc := b_S_setCell) (maxL := 6) (ret := none) (by decide) rfl (Nat.le_of_ble_eq_true rfl) ?_
  intro p e s m below meth c A cf hr hlk hK hN hA H locs ls hl hP hD hS
  have hx := cf.1
  have hb := cf.2.1
  have hown := cf.2.2.2.1
  have ht : ∀ w ∈ wA, w.before _ s = true := fun w h => cf.2.2.2.2 w (List.mem_cons_of_mem _ h)
  unfold s_S_setCell at h
  have hl : lv_has ls 6 [(0, .ref h_p0), (1, .int x1), (2, .int x2), (3, .int x3)] := hl
  refine lv_iload_n hx hb d_S_setCell_0 rfl (lv_at hl 1 rfl) ?_
  refine lv_bipush (v := (nI 12)) hx hb d_S_setCell_1 (by decide) ?_
  refine lv_idiv hx hb d_S_setCell_3 (by decide) ?_
  refine lv_istore (lv' := [(4, .int (x1 / (nI 12))), (0, .ref h_p0), (1, .int x1), (2, .int x2), (3, .int x3)]) hx hb d_S_setCell_4 hl (by decide) rfl (fun ls hl => ?_)
  refine lv_iload_n hx hb d_S_setCell_6 rfl (lv_at hl 2 rfl) ?_
  refine lv_bipush (v := (nI 12)) hx hb d_S_setCell_7 (by decide) ?_
  refine lv_irem hx hb d_S_setCell_9 (by decide) ?_
  refine lv_istore (lv' := [(5, .int (x1 - x1 / (nI 12) * (nI 12))), (4, .int (x1 / (nI 12))), (0, .ref h_p0), (1, .int x1), (2, .int x2), (3, .int x3)]) hx hb d_S_setCell_10 hl (by decide) rfl (fun ls hl => ?_)
  refine lv_iload hx hb d_S_setCell_12 (lv_at hl 0 rfl) ?_
  refine lv_if_ne hx hb d_S_setCell_14 rfl (fun hc => ?_) (fun hc => ?_)
  · rw [if_neg hc] at h
    refine lv_iload hx hb d_S_setCell_33 (lv_at hl 0 rfl) ?_
    refine lv_iconst (v := (nI 1)) hx hb d_S_setCell_35 (by decide) ?_
    refine lv_icmp_ne hx hb d_S_setCell_36 rfl (fun hc => ?_) (fun hc => ?_)
    · rw [if_neg hc] at h
      refine lv_aload_n hx hb d_S_setCell_55 rfl (lv_at hl 2 rfl) ?_
      refine va_get (D := D) (ci := 0) (v := .ref h_p0_words) (C := R_S) (T := F_S) (N := 5) hx hb ht in_S hown hK hP 0 rfl rfl 2 (by decide) (ht _ f_S_18) (fun _ h9 => h9) rfl d_S_setCell_56 ?_
      refine lv_iload_n hx hb d_S_setCell_59 rfl (lv_at hl 3 rfl) ?_
      refine lv_bipush (v := (nI 8)) hx hb d_S_setCell_60 (by decide) ?_
      refine lv_imul hx hb d_S_setCell_62 ?_
      refine lv_iload_n hx hb d_S_setCell_63 rfl (lv_at hl 4 rfl) ?_
      refine lv_iadd hx hb d_S_setCell_64 ?_
      refine lv_iload_n hx hb d_S_setCell_65 rfl (lv_at hl 5 rfl) ?_
      obtain ⟨hin, h⟩ := ga_some h
      refine va_iast hx hb hK hP hD hS 3 0 rfl rfl hin d_S_setCell_66 (fun H locs hP hD hS => ?_)
      have hP : va_P D clA (w_S cI cZ h_p0 h_p0_maps h_p0_tables h_p0_words h_p0_blank h_p0_queue maps tables (upd words ((x1 * (nI 8)) + x2).toNatClampNeg x3) blank queue) H := hP
      have hD : va_D A (w_S cI cZ h_p0 h_p0_maps h_p0_tables h_p0_words h_p0_blank h_p0_queue maps tables (upd words ((x1 * (nI 8)) + x2).toNatClampNeg x3) blank queue) := hD
      cases h
      exact sc_vret cf hr hlk hK hP hD hS d_S_setCell_67
    · rw [if_pos hc] at h
      refine lv_aload_n hx hb d_S_setCell_39 rfl (lv_at hl 2 rfl) ?_
      refine va_get (D := D) (ci := 0) (v := .ref h_p0_tables) (C := R_S) (T := F_S) (N := 5) hx hb ht in_S hown hK hP 0 rfl rfl 1 (by decide) (ht _ f_S_15) (fun _ h9 => h9) rfl d_S_setCell_40 ?_
      refine lv_iload hx hb d_S_setCell_43 (lv_at hl 1 rfl) ?_
      refine lv_bipush (v := (nI 30)) hx hb d_S_setCell_45 (by decide) ?_
      refine lv_imul hx hb d_S_setCell_47 ?_
      refine lv_iload_n hx hb d_S_setCell_48 rfl (lv_at hl 4 rfl) ?_
      refine lv_iadd hx hb d_S_setCell_49 ?_
      refine lv_iload_n hx hb d_S_setCell_50 rfl (lv_at hl 5 rfl) ?_
      obtain ⟨hin, h⟩ := ga_some h
      refine va_iast hx hb hK hP hD hS 2 0 rfl rfl hin d_S_setCell_51 (fun H locs hP hD hS => ?_)
      have hP : va_P D clA (w_S cI cZ h_p0 h_p0_maps h_p0_tables h_p0_words h_p0_blank h_p0_queue maps (upd tables (((x1 / (nI 12)) * (nI 30)) + x2).toNatClampNeg x3) words blank queue) H := hP
      have hD : va_D A (w_S cI cZ h_p0 h_p0_maps h_p0_tables h_p0_words h_p0_blank h_p0_queue maps (upd tables (((x1 / (nI 12)) * (nI 30)) + x2).toNatClampNeg x3) words blank queue) := hD
      refine lv_goto hx hb d_S_setCell_52 rfl ?_
      cases h
      exact sc_vret cf hr hlk hK hP hD hS d_S_setCell_67
  · rw [if_pos hc] at h
    refine lv_aload_n hx hb d_S_setCell_17 rfl (lv_at hl 2 rfl) ?_
    refine va_get (D := D) (ci := 0) (v := .ref h_p0_maps) (C := R_S) (T := F_S) (N := 5) hx hb ht in_S hown hK hP 0 rfl rfl 0 (by decide) (ht _ f_S_9) (fun _ h9 => h9) rfl d_S_setCell_18 ?_
    refine lv_iload hx hb d_S_setCell_21 (lv_at hl 1 rfl) ?_
    refine lv_bipush (v := (nI 16)) hx hb d_S_setCell_23 (by decide) ?_
    refine lv_imul hx hb d_S_setCell_25 ?_
    refine lv_iload_n hx hb d_S_setCell_26 rfl (lv_at hl 4 rfl) ?_
    refine lv_iadd hx hb d_S_setCell_27 ?_
    refine lv_iload_n hx hb d_S_setCell_28 rfl (lv_at hl 5 rfl) ?_
    obtain ⟨hin, h⟩ := ga_some h
    refine va_iast hx hb hK hP hD hS 1 0 rfl rfl hin d_S_setCell_29 (fun H locs hP hD hS => ?_)
    have hP : va_P D clA (w_S cI cZ h_p0 h_p0_maps h_p0_tables h_p0_words h_p0_blank h_p0_queue (upd maps (((x1 / (nI 12)) * (nI 16)) + x2).toNatClampNeg x3) tables words blank queue) H := hP
    have hD : va_D A (w_S cI cZ h_p0 h_p0_maps h_p0_tables h_p0_words h_p0_blank h_p0_queue (upd maps (((x1 / (nI 12)) * (nI 16)) + x2).toNatClampNeg x3) tables words blank queue) := hD
    refine lv_goto hx hb d_S_setCell_30 rfl ?_
    cases h
    exact sc_vret cf hr hlk hK hP hD hS d_S_setCell_67
set_option maxHeartbeats 4000000 in
set_option maxRecDepth 100000 in
theorem w_S_copyBlock_8 {p : Program} {l : Launch} {e : Env} {s : State} {m : MethodId} {args : Array Value} {below : List Frame} {meth : Method} {c : Code} {D : va_G} {cI cZ : ClassId} {A : Nat → Prop} (h_p0 h_p0_maps h_p0_tables h_p0_words h_p0_blank h_p0_queue h_p1 h_p1_maps h_p1_tables h_p1_words h_p1_blank h_p1_queue : Nat) (F : Nat) (blank : (Nat → Int32)) (queue : (Nat → Int32)) (p1_maps : (Nat → Int32)) (p1_tables : (Nat → Int32)) (p1_words : (Nat → Int32)) (p1_blank : (Nat → Int32)) (p1_queue : (Nat → Int32)) (maps' : (Nat → Int32)) (tables' : (Nat → Int32)) (words' : (Nat → Int32)) (cx : cx_ok p s m args meth c b_S_copyBlock 5 o_S_copyBlock "OrderedVolume$Store" none D cI cZ A) : ∀ (n : Nat) (x2 : Int32) (x3 : Int32) (x4 : Int32) (maps : (Nat → Int32)) (tables : (Nat → Int32)) (words : (Nat → Int32)), s_S_copyBlock_8 F p1_maps p1_tables p1_words n x2 x3 x4 maps tables words = some (maps', tables', words') → wk_G p l e rm_S_copyBlock s m args below meth c (sc_Qv below args s D cI cZ A ((w_S cI cZ h_p0 h_p0_maps h_p0_tables h_p0_words h_p0_blank h_p0_queue (maps') (tables') (words') blank queue) ++ (w_S cI cZ h_p1 h_p1_maps h_p1_tables h_p1_words h_p1_blank h_p1_queue p1_maps p1_tables p1_words p1_blank p1_queue))) D A 5 8 [] [(0, .ref h_p0), (1, .ref h_p1), (2, .int x2), (3, .int x3), (4, .int x4)] ((w_S cI cZ h_p0 h_p0_maps h_p0_tables h_p0_words h_p0_blank h_p0_queue maps tables words blank queue) ++ (w_S cI cZ h_p1 h_p1_maps h_p1_tables h_p1_words h_p1_blank h_p1_queue p1_maps p1_tables p1_words p1_blank p1_queue)) := by
  obtain ⟨cf, hr, hlk, hK, hN, hA⟩ := cx
  have hx := cf.1
  have hb := cf.2.1
  have hown := cf.2.2.2.1
  have ht : ∀ w ∈ wA, w.before args s = true := fun w h => cf.2.2.2.2 w (List.mem_cons_of_mem _ h)
  intro n
  induction n with
  | zero => intro x2 x3 x4 maps tables words h; cases (show (none : Option ((Nat → Int32) × (Nat → Int32) × (Nat → Int32))) = some _ from h)
  | succ n ih =>
    intro x2 x3 x4 maps tables words h H locs ls hl hP hD hS
    unfold s_S_copyBlock_8 at h
    refine lv_iload hx hb d_S_copyBlock_8 (lv_at hl 4 rfl) ?_
    refine lv_iload_n hx hb d_S_copyBlock_10 rfl (lv_at hl 3 rfl) ?_
    refine lv_icmp_ge hx hb d_S_copyBlock_11 rfl (fun hc => ?_) (fun hc => ?_)
    · rw [if_pos hc] at h
      cases h
      exact sc_vret cf hr hlk hK hP hD hS d_S_copyBlock_34
    · rw [if_neg hc] at h
      refine lv_aload_n hx hb d_S_copyBlock_14 rfl (lv_at hl 0 rfl) ?_
      refine lv_iload_n hx hb d_S_copyBlock_15 rfl (lv_at hl 2 rfl) ?_
      refine lv_iload hx hb d_S_copyBlock_16 (lv_at hl 4 rfl) ?_
      refine lv_aload_n hx hb d_S_copyBlock_18 rfl (lv_at hl 1 rfl) ?_
      refine lv_iload_n hx hb d_S_copyBlock_19 rfl (lv_at hl 2 rfl) ?_
      refine lv_iload hx hb d_S_copyBlock_20 (lv_at hl 4 rfl) ?_
      obtain ⟨r22, h22, h⟩ := bd_some h
      refine wk_Vi (As := [.int x2, .int x4]) (rest := [.int x4, .int x2, .ref h_p0]) (wc := (w_S cI cZ h_p1 h_p1_maps h_p1_tables h_p1_words h_p1_blank h_p1_queue p1_maps p1_tables p1_words p1_blank p1_queue)) (w1 := (w_S cI cZ h_p1 h_p1_maps h_p1_tables h_p1_words h_p1_blank h_p1_queue p1_maps p1_tables p1_words p1_blank p1_queue)) (wr := [(h_p0, .inr (0, [.ref h_p0_maps, .ref h_p0_tables, .ref h_p0_words, .ref h_p0_blank, .ref h_p0_queue])), (h_p0_maps, .inl (cI, 48, .inl maps)), (h_p0_tables, .inl (cI, 90, .inl tables)), (h_p0_words, .inl (cI, 288, .inl words)), (h_p0_blank, .inl (cZ, 36, .inl blank)), (h_p0_queue, .inl (cI, 18, .inl queue))]) (wz := ((w_S cI cZ h_p0 h_p0_maps h_p0_tables h_p0_words h_p0_blank h_p0_queue maps tables words blank queue) ++ (w_S cI cZ h_p1 h_p1_maps h_p1_tables h_p1_words h_p1_blank h_p1_queue p1_maps p1_tables p1_words p1_blank p1_queue))) cf hK hN hA (c_S_cell l D cI cZ h_p1 h_p1_maps h_p1_tables h_p1_words h_p1_blank h_p1_queue p1_maps p1_tables p1_words p1_blank p1_queue x2 x4 r22 h22) k_S_49 ⟨rfl, rfl, by decide, by decide⟩ 0 rfl rfl rfl hl hP hD hS [6, 7, 8, 9, 10, 11] [0, 1, 2, 3, 4, 5] [0, 1, 2, 3, 4, 5, 6, 7, 8, 9, 10, 11] rfl rfl rfl (by decide) rfl rfl rfl rfl rfl (Nat.le_of_ble_eq_true rfl) rfl d_S_copyBlock_22 (fun H locs hP hD hS => ?_)
      obtain ⟨⟨maps_25, tables_25, words_25⟩, h25, h⟩ := bd_some h
      dsimp only at h
      refine wk_Vv (As := [.int x2, .int x4, .int r22]) (rest := []) (wc := (w_S cI cZ h_p0 h_p0_maps h_p0_tables h_p0_words h_p0_blank h_p0_queue maps tables words blank queue)) (w1 := (w_S cI cZ h_p0 h_p0_maps h_p0_tables h_p0_words h_p0_blank h_p0_queue maps_25 tables_25 words_25 blank queue)) (wr := [(h_p1, .inr (0, [.ref h_p1_maps, .ref h_p1_tables, .ref h_p1_words, .ref h_p1_blank, .ref h_p1_queue])), (h_p1_maps, .inl (cI, 48, .inl p1_maps)), (h_p1_tables, .inl (cI, 90, .inl p1_tables)), (h_p1_words, .inl (cI, 288, .inl p1_words)), (h_p1_blank, .inl (cZ, 36, .inl p1_blank)), (h_p1_queue, .inl (cI, 18, .inl p1_queue))]) (wz := ((w_S cI cZ h_p0 h_p0_maps h_p0_tables h_p0_words h_p0_blank h_p0_queue maps_25 tables_25 words_25 blank queue) ++ (w_S cI cZ h_p1 h_p1_maps h_p1_tables h_p1_words h_p1_blank h_p1_queue p1_maps p1_tables p1_words p1_blank p1_queue))) cf hK hN hA (c_S_setCell l D cI cZ h_p0 h_p0_maps h_p0_tables h_p0_words h_p0_blank h_p0_queue maps tables words blank queue maps_25 tables_25 words_25 x2 x4 r22 h25) k_S_53 ⟨rfl, rfl, by decide, by decide⟩ 0 rfl rfl rfl hl hP hD hS [0, 1, 2, 3, 4, 5] [6, 7, 8, 9, 10, 11] [6, 7, 8, 9, 10, 11, 0, 1, 2, 3, 4, 5] rfl rfl rfl (by decide) rfl rfl rfl rfl rfl (Nat.le_of_ble_eq_true rfl) rfl d_S_copyBlock_25 (fun H locs hP hD hS => ?_)
      refine lv_iinc (k := 4) (v := (x4 + (nI 1))) (lv' := [(4, .int (x4 + (nI 1))), (0, .ref h_p0), (1, .ref h_p1), (2, .int x2), (3, .int x3)]) hx hb d_S_copyBlock_28 hl rfl rfl (by decide) rfl (fun ls hl => ?_)
      refine lv_goto hx hb d_S_copyBlock_31 rfl ?_
      exact ih x2 x3 (x4 + (nI 1)) maps_25 tables_25 words_25 h H locs ls (lv_sub hl [1, 2, 3, 4, 0] rfl) hP hD hS
set_option maxHeartbeats 4000000 in
set_option maxRecDepth 100000 in
theorem c_S_copyBlock (l : Launch) (D : va_G) (cI cZ : ClassId) (h_p0 h_p0_maps h_p0_tables h_p0_words h_p0_blank h_p0_queue h_p1 h_p1_maps h_p1_tables h_p1_words h_p1_blank h_p1_queue : Nat) (F : Nat) (maps : (Nat → Int32)) (tables : (Nat → Int32)) (words : (Nat → Int32)) (blank : (Nat → Int32)) (queue : (Nat → Int32)) (p1_maps : (Nat → Int32)) (p1_tables : (Nat → Int32)) (p1_words : (Nat → Int32)) (p1_blank : (Nat → Int32)) (p1_queue : (Nat → Int32)) (maps' : (Nat → Int32)) (tables' : (Nat → Int32)) (words' : (Nat → Int32)) (x2 : Int32) (h : s_S_copyBlock F p1_maps p1_tables p1_words x2 maps tables words = some (maps', tables', words')) : sc_v l y_S_copyBlock (o_S_copyBlock :: wA) rm_S_copyBlock D cI cZ [.ref h_p0, .ref h_p1, .int x2] ((w_S cI cZ h_p0 h_p0_maps h_p0_tables h_p0_words h_p0_blank h_p0_queue maps tables words blank queue) ++ (w_S cI cZ h_p1 h_p1_maps h_p1_tables h_p1_words h_p1_blank h_p1_queue p1_maps p1_tables p1_words p1_blank p1_queue)) ((w_S cI cZ h_p0 h_p0_maps h_p0_tables h_p0_words h_p0_blank h_p0_queue (maps') (tables') (words') blank queue) ++ (w_S cI cZ h_p1 h_p1_maps h_p1_tables h_p1_words h_p1_blank h_p1_queue p1_maps p1_tables p1_words p1_blank p1_queue)) := by
  refine sc_v_of (cc := b_S_copyBlock) (maxL := 5) (ret := none) (by decide) rfl (Nat.le_of_ble_eq_true rfl) ?_
  intro p e s m below meth c A cf hr hlk hK hN hA H locs ls hl hP hD hS
  have hx := cf.1
  have hb := cf.2.1
  have hown := cf.2.2.2.1
  have ht : ∀ w ∈ wA, w.before _ s = true := fun w h => cf.2.2.2.2 w (List.mem_cons_of_mem _ h)
  unfold s_S_copyBlock at h
  have hl : lv_has ls 5 [(0, .ref h_p0), (1, .ref h_p1), (2, .int x2)] := hl
  refine lv_iload_n hx hb d_S_copyBlock_0 rfl (lv_at hl 2 rfl) ?_
  obtain ⟨r1, h1, h⟩ := bd_some h
  refine wk_Ni (As := [.int x2]) (rest := []) (wc := []) (w1 := []) (wr := [(h_p0, .inr (0, [.ref h_p0_maps, .ref h_p0_tables, .ref h_p0_words, .ref h_p0_blank, .ref h_p0_queue])), (h_p0_maps, .inl (cI, 48, .inl maps)), (h_p0_tables, .inl (cI, 90, .inl tables)), (h_p0_words, .inl (cI, 288, .inl words)), (h_p0_blank, .inl (cZ, 36, .inl blank)), (h_p0_queue, .inl (cI, 18, .inl queue)), (h_p1, .inr (0, [.ref h_p1_maps, .ref h_p1_tables, .ref h_p1_words, .ref h_p1_blank, .ref h_p1_queue])), (h_p1_maps, .inl (cI, 48, .inl p1_maps)), (h_p1_tables, .inl (cI, 90, .inl p1_tables)), (h_p1_words, .inl (cI, 288, .inl p1_words)), (h_p1_blank, .inl (cZ, 36, .inl p1_blank)), (h_p1_queue, .inl (cI, 18, .inl p1_queue))]) (wz := ((w_S cI cZ h_p0 h_p0_maps h_p0_tables h_p0_words h_p0_blank h_p0_queue maps tables words blank queue) ++ (w_S cI cZ h_p1 h_p1_maps h_p1_tables h_p1_words h_p1_blank h_p1_queue p1_maps p1_tables p1_words p1_blank p1_queue))) cf hK hN hA (c_V_cellCount l D cI cZ 0 x2 r1 h1) k_S_45 hN.1 ⟨rfl, rfl, by decide, by decide⟩ hl hP hD hS [] [0, 1, 2, 3, 4, 5, 6, 7, 8, 9, 10, 11] [0, 1, 2, 3, 4, 5, 6, 7, 8, 9, 10, 11] rfl rfl rfl (by decide) rfl rfl rfl rfl rfl (Nat.le_of_ble_eq_true rfl) rfl d_S_copyBlock_1 (fun H locs hP hD hS => ?_)
  refine lv_istore_n (lv' := [(3, .int r1), (0, .ref h_p0), (1, .ref h_p1), (2, .int x2)]) hx hb d_S_copyBlock_4 rfl hl (by decide) rfl (fun ls hl => ?_)
  refine lv_iconst (v := (nI 0)) hx hb d_S_copyBlock_5 (by decide) ?_
  refine lv_istore (lv' := [(4, .int (nI 0)), (3, .int r1), (0, .ref h_p0), (1, .ref h_p1), (2, .int x2)]) hx hb d_S_copyBlock_6 hl (by decide) rfl (fun ls hl => ?_)
  exact w_S_copyBlock_8 h_p0 h_p0_maps h_p0_tables h_p0_words h_p0_blank h_p0_queue h_p1 h_p1_maps h_p1_tables h_p1_words h_p1_blank h_p1_queue F blank queue p1_maps p1_tables p1_words p1_blank p1_queue maps' tables' words' ⟨cf, hr, hlk, hK, hN, hA⟩ F x2 r1 (nI 0) maps tables words h H locs ls (lv_sub hl [2, 3, 4, 1, 0] rfl) hP hD hS
set_option maxHeartbeats 4000000 in
set_option maxRecDepth 100000 in
theorem w_S_entryCount_4 {p : Program} {l : Launch} {e : Env} {s : State} {m : MethodId} {args : Array Value} {below : List Frame} {meth : Method} {c : Code} {D : va_G} {cI cZ : ClassId} {A : Nat → Prop} (h_p0 h_p0_maps h_p0_tables h_p0_words h_p0_blank h_p0_queue : Nat) (F : Nat) (maps : (Nat → Int32)) (tables : (Nat → Int32)) (words : (Nat → Int32)) (blank : (Nat → Int32)) (queue : (Nat → Int32)) (r : Int32) (cx : cx_ok p s m args meth c b_S_entryCount 4 o_S_entryCount "OrderedVolume$Store" (some .int) D cI cZ A) : ∀ (n : Nat) (x1 : Int32) (x2 : Int32) (x3 : Int32), s_S_entryCount_4 F tables words blank n x1 x2 x3 = some r → wk_G p l e rm_S_entryCount s m args below meth c (sc_Qi below args s D cI cZ A (w_S cI cZ h_p0 h_p0_maps h_p0_tables h_p0_words h_p0_blank h_p0_queue maps tables words blank queue) r) D A 4 4 [] [(0, .ref h_p0), (1, .int x1), (2, .int x2), (3, .int x3)] (w_S cI cZ h_p0 h_p0_maps h_p0_tables h_p0_words h_p0_blank h_p0_queue maps tables words blank queue) := by
  obtain ⟨cf, hr, hlk, hK, hN, hA⟩ := cx
  have hx := cf.1
  have hb := cf.2.1
  have hown := cf.2.2.2.1
  have ht : ∀ w ∈ wA, w.before args s = true := fun w h => cf.2.2.2.2 w (List.mem_cons_of_mem _ h)
  intro n
  induction n with
  | zero => intro x1 x2 x3 h; cases (show (none : Option (Int32)) = some _ from h)
  | succ n ih =>
    intro x1 x2 x3 h H locs ls hl hP hD hS
    unfold s_S_entryCount_4 at h
    refine lv_iload_n hx hb d_S_entryCount_4 rfl (lv_at hl 3 rfl) ?_
    refine lv_bipush (v := (nI 8)) hx hb d_S_entryCount_5 (by decide) ?_
    refine lv_icmp_ge hx hb d_S_entryCount_7 rfl (fun hc => ?_) (fun hc => ?_)
    · rw [if_pos hc] at h
      refine lv_iload_n hx hb d_S_entryCount_28 rfl (lv_at hl 2 rfl) ?_
      cases h
      exact sc_iret cf hr hlk hK hP hD hS d_S_entryCount_29
    · rw [if_neg hc] at h
      refine lv_aload_n hx hb d_S_entryCount_10 rfl (lv_at hl 0 rfl) ?_
      refine lv_iload_n hx hb d_S_entryCount_11 rfl (lv_at hl 1 rfl) ?_
      refine lv_iload_n hx hb d_S_entryCount_12 rfl (lv_at hl 3 rfl) ?_
      obtain ⟨r13, h13, h⟩ := bd_some h
      refine wk_Vi (As := [.int x1, .int x3]) (rest := []) (wc := (w_S cI cZ h_p0 h_p0_maps h_p0_tables h_p0_words h_p0_blank h_p0_queue maps tables words blank queue)) (w1 := (w_S cI cZ h_p0 h_p0_maps h_p0_tables h_p0_words h_p0_blank h_p0_queue maps tables words blank queue)) (wr := []) (wz := (w_S cI cZ h_p0 h_p0_maps h_p0_tables h_p0_words h_p0_blank h_p0_queue maps tables words blank queue)) cf hK hN hA (c_S_entry l D cI cZ h_p0 h_p0_maps h_p0_tables h_p0_words h_p0_blank h_p0_queue maps tables words blank queue x1 x3 r13 h13) k_S_56 ⟨rfl, rfl, by decide, by decide⟩ 0 rfl rfl rfl hl hP hD hS [0, 1, 2, 3, 4, 5] [] [0, 1, 2, 3, 4, 5] rfl rfl rfl (by decide) rfl rfl rfl rfl rfl (Nat.le_of_ble_eq_true rfl) rfl d_S_entryCount_13 (fun H locs hP hD hS => ?_)
      refine lv_if_eq hx hb d_S_entryCount_16 rfl (fun hc => ?_) (fun hc => ?_)
      · rw [if_pos hc] at h
        refine lv_iinc (k := 3) (v := (x3 + (nI 1))) (lv' := [(3, .int (x3 + (nI 1))), (0, .ref h_p0), (1, .int x1), (2, .int x2)]) hx hb d_S_entryCount_22 hl rfl rfl (by decide) rfl (fun ls hl => ?_)
        refine lv_goto hx hb d_S_entryCount_25 rfl ?_
        exact ih x1 x2 (x3 + (nI 1)) h H locs ls (lv_sub hl [1, 2, 3, 0] rfl) hP hD hS
      · rw [if_neg hc] at h
        refine lv_iinc (k := 2) (v := (x2 + (nI 1))) (lv' := [(2, .int (x2 + (nI 1))), (0, .ref h_p0), (1, .int x1), (3, .int x3)]) hx hb d_S_entryCount_19 hl rfl rfl (by decide) rfl (fun ls hl => ?_)
        refine lv_iinc (k := 3) (v := (x3 + (nI 1))) (lv' := [(3, .int (x3 + (nI 1))), (2, .int (x2 + (nI 1))), (0, .ref h_p0), (1, .int x1)]) hx hb d_S_entryCount_22 hl rfl rfl (by decide) rfl (fun ls hl => ?_)
        refine lv_goto hx hb d_S_entryCount_25 rfl ?_
        exact ih x1 (x2 + (nI 1)) (x3 + (nI 1)) h H locs ls (lv_sub hl [2, 3, 1, 0] rfl) hP hD hS
set_option maxHeartbeats 4000000 in
set_option maxRecDepth 100000 in
theorem c_S_entryCount (l : Launch) (D : va_G) (cI cZ : ClassId) (h_p0 h_p0_maps h_p0_tables h_p0_words h_p0_blank h_p0_queue : Nat) (F : Nat) (maps : (Nat → Int32)) (tables : (Nat → Int32)) (words : (Nat → Int32)) (blank : (Nat → Int32)) (queue : (Nat → Int32)) (x1 : Int32) (r : Int32) (h : s_S_entryCount F tables words blank x1 = some r) : sc_i l y_S_entryCount (o_S_entryCount :: wA) rm_S_entryCount D cI cZ [.ref h_p0, .int x1] (w_S cI cZ h_p0 h_p0_maps h_p0_tables h_p0_words h_p0_blank h_p0_queue maps tables words blank queue) (w_S cI cZ h_p0 h_p0_maps h_p0_tables h_p0_words h_p0_blank h_p0_queue maps tables words blank queue) r := by
  refine sc_i_of (cc := b_S_entryCount) (maxL := 4) (ret := (some .int)) (by decide) rfl (Nat.le_of_ble_eq_true rfl) ?_
  intro p e s m below meth c A cf hr hlk hK hN hA H locs ls hl hP hD hS
  have hx := cf.1
  have hb := cf.2.1
  have hown := cf.2.2.2.1
  have ht : ∀ w ∈ wA, w.before _ s = true := fun w h => cf.2.2.2.2 w (List.mem_cons_of_mem _ h)
  unfold s_S_entryCount at h
  have hl : lv_has ls 4 [(0, .ref h_p0), (1, .int x1)] := hl
  refine lv_iconst (v := (nI 0)) hx hb d_S_entryCount_0 (by decide) ?_
  refine lv_istore_n (lv' := [(2, .int (nI 0)), (0, .ref h_p0), (1, .int x1)]) hx hb d_S_entryCount_1 rfl hl (by decide) rfl (fun ls hl => ?_)
  refine lv_iconst (v := (nI 0)) hx hb d_S_entryCount_2 (by decide) ?_
  refine lv_istore_n (lv' := [(3, .int (nI 0)), (2, .int (nI 0)), (0, .ref h_p0), (1, .int x1)]) hx hb d_S_entryCount_3 rfl hl (by decide) rfl (fun ls hl => ?_)
  exact w_S_entryCount_4 h_p0 h_p0_maps h_p0_tables h_p0_words h_p0_blank h_p0_queue F maps tables words blank queue r ⟨cf, hr, hlk, hK, hN, hA⟩ F x1 (nI 0) (nI 0) h H locs ls (lv_sub hl [2, 3, 1, 0] rfl) hP hD hS
set_option maxHeartbeats 4000000 in
set_option maxRecDepth 100000 in
theorem w_S_freeBlock_21 {p : Program} {l : Launch} {e : Env} {s : State} {m : MethodId} {args : Array Value} {below : List Frame} {meth : Method} {c : Code} {D : va_G} {cI cZ : ClassId} {A : Nat → Prop} (h_p0 h_p0_maps h_p0_tables h_p0_words h_p0_blank h_p0_queue : Nat) (F : Nat) (maps : (Nat → Int32)) (tables : (Nat → Int32)) (words : (Nat → Int32)) (blank : (Nat → Int32)) (queue : (Nat → Int32)) (r : Int32) (k2 : Int32 → Int32 → Option (Int32)) (cx : cx_ok p s m args meth c b_S_freeBlock 5 o_S_freeBlock "OrderedVolume$Store" (some .int) D cI cZ A) (h2 : (∀ (x1 : Int32) (x2 : Int32), k2 x1 x2 = some r → wk_G p l e rm_S_freeBlock s m args below meth c (sc_Qi below args s D cI cZ A (w_S cI cZ h_p0 h_p0_maps h_p0_tables h_p0_words h_p0_blank h_p0_queue maps tables words blank queue) r) D A 5 2 [] [(0, .ref h_p0), (1, .int x1), (2, .int x2)] (w_S cI cZ h_p0 h_p0_maps h_p0_tables h_p0_words h_p0_blank h_p0_queue maps tables words blank queue))) : ∀ (n : Nat) (x1 : Int32) (x2 : Int32) (x3 : Int32) (x4 : Int32), s_S_freeBlock_21 F maps k2 n x1 x2 x3 x4 = some r → wk_G p l e rm_S_freeBlock s m args below meth c (sc_Qi below args s D cI cZ A (w_S cI cZ h_p0 h_p0_maps h_p0_tables h_p0_words h_p0_blank h_p0_queue maps tables words blank queue) r) D A 5 21 [] [(0, .ref h_p0), (1, .int x1), (2, .int x2), (3, .int x3), (4, .int x4)] (w_S cI cZ h_p0 h_p0_maps h_p0_tables h_p0_words h_p0_blank h_p0_queue maps tables words blank queue) := by
  obtain ⟨cf, hr, hlk, hK, hN, hA⟩ := cx
  have hx := cf.1
  have hb := cf.2.1
  have hown := cf.2.2.2.1
  have ht : ∀ w ∈ wA, w.before args s = true := fun w h => cf.2.2.2.2 w (List.mem_cons_of_mem _ h)
  intro n
  induction n with
  | zero => intro x1 x2 x3 x4 h; cases (show (none : Option (Int32)) = some _ from h)
  | succ n ih =>
    intro x1 x2 x3 x4 h H locs ls hl hP hD hS
    unfold s_S_freeBlock_21 at h
    refine lv_iload hx hb d_S_freeBlock_21 (lv_at hl 4 rfl) ?_
    refine lv_iload_n hx hb d_S_freeBlock_23 rfl (lv_at hl 3 rfl) ?_
    refine lv_bipush (v := (nI 12)) hx hb d_S_freeBlock_24 (by decide) ?_
    refine lv_iadd hx hb d_S_freeBlock_26 ?_
    refine lv_icmp_ge hx hb d_S_freeBlock_27 rfl (fun hc => ?_) (fun hc => ?_)
    · rw [if_pos hc] at h
      refine lv_iinc (k := 2) (v := (x2 + (nI 1))) (lv' := [(2, .int (x2 + (nI 1))), (0, .ref h_p0), (1, .int x1), (3, .int x3), (4, .int x4)]) hx hb d_S_freeBlock_48 hl rfl rfl (by decide) rfl (fun ls hl => ?_)
      refine lv_goto hx hb d_S_freeBlock_51 rfl ?_
      exact h2 x1 (x2 + (nI 1)) h H locs ls (lv_sub hl [1, 2, 0] rfl) hP hD hS
    · rw [if_neg hc] at h
      refine lv_aload_n hx hb d_S_freeBlock_30 rfl (lv_at hl 0 rfl) ?_
      refine lv_iload hx hb d_S_freeBlock_31 (lv_at hl 4 rfl) ?_
      obtain ⟨r33, h33, h⟩ := bd_some h
      refine wk_Vi (As := [.int x4]) (rest := []) (wc := (w_S cI cZ h_p0 h_p0_maps h_p0_tables h_p0_words h_p0_blank h_p0_queue maps tables words blank queue)) (w1 := (w_S cI cZ h_p0 h_p0_maps h_p0_tables h_p0_words h_p0_blank h_p0_queue maps tables words blank queue)) (wr := []) (wz := (w_S cI cZ h_p0 h_p0_maps h_p0_tables h_p0_words h_p0_blank h_p0_queue maps tables words blank queue)) cf hK hN hA (c_S_blockMark l D cI cZ h_p0 h_p0_maps h_p0_tables h_p0_words h_p0_blank h_p0_queue maps tables words blank queue x4 r33 h33) k_S_79 ⟨rfl, rfl, by decide, by decide⟩ 0 rfl rfl rfl hl hP hD hS [0, 1, 2, 3, 4, 5] [] [0, 1, 2, 3, 4, 5] rfl rfl rfl (by decide) rfl rfl rfl rfl rfl (Nat.le_of_ble_eq_true rfl) rfl d_S_freeBlock_33 (fun H locs hP hD hS => ?_)
      refine lv_if_ne hx hb d_S_freeBlock_36 rfl (fun hc => ?_) (fun hc => ?_)
      · rw [if_neg hc] at h
        refine lv_iinc (k := 4) (v := (x4 + (nI 1))) (lv' := [(4, .int (x4 + (nI 1))), (0, .ref h_p0), (1, .int x1), (2, .int x2), (3, .int x3)]) hx hb d_S_freeBlock_42 hl rfl rfl (by decide) rfl (fun ls hl => ?_)
        refine lv_goto hx hb d_S_freeBlock_45 rfl ?_
        exact ih x1 x2 x3 (x4 + (nI 1)) h H locs ls (lv_sub hl [1, 2, 3, 4, 0] rfl) hP hD hS
      · rw [if_pos hc] at h
        refine lv_iload hx hb d_S_freeBlock_39 (lv_at hl 4 rfl) ?_
        cases h
        exact sc_iret cf hr hlk hK hP hD hS d_S_freeBlock_41
set_option maxHeartbeats 4000000 in
set_option maxRecDepth 100000 in
theorem w_S_freeBlock_2 {p : Program} {l : Launch} {e : Env} {s : State} {m : MethodId} {args : Array Value} {below : List Frame} {meth : Method} {c : Code} {D : va_G} {cI cZ : ClassId} {A : Nat → Prop} (h_p0 h_p0_maps h_p0_tables h_p0_words h_p0_blank h_p0_queue : Nat) (F : Nat) (maps : (Nat → Int32)) (tables : (Nat → Int32)) (words : (Nat → Int32)) (blank : (Nat → Int32)) (queue : (Nat → Int32)) (r : Int32) (cx : cx_ok p s m args meth c b_S_freeBlock 5 o_S_freeBlock "OrderedVolume$Store" (some .int) D cI cZ A) : ∀ (n : Nat) (x1 : Int32) (x2 : Int32), s_S_freeBlock_2 F maps n x1 x2 = some r → wk_G p l e rm_S_freeBlock s m args below meth c (sc_Qi below args s D cI cZ A (w_S cI cZ h_p0 h_p0_maps h_p0_tables h_p0_words h_p0_blank h_p0_queue maps tables words blank queue) r) D A 5 2 [] [(0, .ref h_p0), (1, .int x1), (2, .int x2)] (w_S cI cZ h_p0 h_p0_maps h_p0_tables h_p0_words h_p0_blank h_p0_queue maps tables words blank queue) := by
  obtain ⟨cf, hr, hlk, hK, hN, hA⟩ := cx
  have hx := cf.1
  have hb := cf.2.1
  have hown := cf.2.2.2.1
  have ht : ∀ w ∈ wA, w.before args s = true := fun w h => cf.2.2.2.2 w (List.mem_cons_of_mem _ h)
  intro n
  induction n with
  | zero => intro x1 x2 h; cases (show (none : Option (Int32)) = some _ from h)
  | succ n ih =>
    intro x1 x2 h H locs ls hl hP hD hS
    unfold s_S_freeBlock_2 at h
    refine lv_iload_n hx hb d_S_freeBlock_2 rfl (lv_at hl 2 rfl) ?_
    refine lv_iconst (v := (nI 3)) hx hb d_S_freeBlock_3 (by decide) ?_
    refine lv_icmp_ge hx hb d_S_freeBlock_4 rfl (fun hc => ?_) (fun hc => ?_)
    · rw [if_pos hc] at h
      refine lv_iconst (v := (-1)) hx hb d_S_freeBlock_54 (by decide) ?_
      cases h
      exact sc_iret cf hr hlk hK hP hD hS d_S_freeBlock_55
    · rw [if_neg hc] at h
      refine lv_iload_n hx hb d_S_freeBlock_7 rfl (lv_at hl 1 rfl) ?_
      refine lv_iload_n hx hb d_S_freeBlock_8 rfl (lv_at hl 2 rfl) ?_
      refine lv_iadd hx hb d_S_freeBlock_9 ?_
      refine lv_iconst (v := (nI 3)) hx hb d_S_freeBlock_10 (by decide) ?_
      refine lv_irem hx hb d_S_freeBlock_11 (by decide) ?_
      refine lv_bipush (v := (nI 12)) hx hb d_S_freeBlock_12 (by decide) ?_
      refine lv_imul hx hb d_S_freeBlock_14 ?_
      refine lv_istore_n (lv' := [(3, .int (((x1 + x2) - (x1 + x2) / (nI 3) * (nI 3)) * (nI 12))), (0, .ref h_p0), (1, .int x1), (2, .int x2)]) hx hb d_S_freeBlock_15 rfl hl (by decide) rfl (fun ls hl => ?_)
      refine lv_iload_n hx hb d_S_freeBlock_16 rfl (lv_at hl 0 rfl) ?_
      refine lv_iconst (v := (nI 2)) hx hb d_S_freeBlock_17 (by decide) ?_
      refine lv_iadd hx hb d_S_freeBlock_18 ?_
      refine lv_istore (lv' := [(4, .int ((((x1 + x2) - (x1 + x2) / (nI 3) * (nI 3)) * (nI 12)) + (nI 2))), (3, .int (((x1 + x2) - (x1 + x2) / (nI 3) * (nI 3)) * (nI 12))), (0, .ref h_p0), (1, .int x1), (2, .int x2)]) hx hb d_S_freeBlock_19 hl (by decide) rfl (fun ls hl => ?_)
      exact w_S_freeBlock_21 h_p0 h_p0_maps h_p0_tables h_p0_words h_p0_blank h_p0_queue F maps tables words blank queue r _ ⟨cf, hr, hlk, hK, hN, hA⟩ ih F x1 x2 (((x1 + x2) - (x1 + x2) / (nI 3) * (nI 3)) * (nI 12)) ((((x1 + x2) - (x1 + x2) / (nI 3) * (nI 3)) * (nI 12)) + (nI 2)) h H locs ls (lv_sub hl [2, 3, 4, 1, 0] rfl) hP hD hS
set_option maxHeartbeats 4000000 in
set_option maxRecDepth 100000 in
theorem c_S_freeBlock (l : Launch) (D : va_G) (cI cZ : ClassId) (h_p0 h_p0_maps h_p0_tables h_p0_words h_p0_blank h_p0_queue : Nat) (F : Nat) (maps : (Nat → Int32)) (tables : (Nat → Int32)) (words : (Nat → Int32)) (blank : (Nat → Int32)) (queue : (Nat → Int32)) (x1 : Int32) (r : Int32) (h : s_S_freeBlock F maps x1 = some r) : sc_i l y_S_freeBlock (o_S_freeBlock :: wA) rm_S_freeBlock D cI cZ [.ref h_p0, .int x1] (w_S cI cZ h_p0 h_p0_maps h_p0_tables h_p0_words h_p0_blank h_p0_queue maps tables words blank queue) (w_S cI cZ h_p0 h_p0_maps h_p0_tables h_p0_words h_p0_blank h_p0_queue maps tables words blank queue) r := by
  refine sc_i_of (cc := b_S_freeBlock) (maxL := 5) (ret := (some .int)) (by decide) rfl (Nat.le_of_ble_eq_true rfl) ?_
  intro p e s m below meth c A cf hr hlk hK hN hA H locs ls hl hP hD hS
  have hx := cf.1
  have hb := cf.2.1
  have hown := cf.2.2.2.1
  have ht : ∀ w ∈ wA, w.before _ s = true := fun w h => cf.2.2.2.2 w (List.mem_cons_of_mem _ h)
  unfold s_S_freeBlock at h
  have hl : lv_has ls 5 [(0, .ref h_p0), (1, .int x1)] := hl
  refine lv_iconst (v := (nI 0)) hx hb d_S_freeBlock_0 (by decide) ?_
  refine lv_istore_n (lv' := [(2, .int (nI 0)), (0, .ref h_p0), (1, .int x1)]) hx hb d_S_freeBlock_1 rfl hl (by decide) rfl (fun ls hl => ?_)
  exact w_S_freeBlock_2 h_p0 h_p0_maps h_p0_tables h_p0_words h_p0_blank h_p0_queue F maps tables words blank queue r ⟨cf, hr, hlk, hK, hN, hA⟩ F x1 (nI 0) h H locs ls (lv_sub hl [1, 2, 0] rfl) hP hD hS
set_option maxHeartbeats 4000000 in
set_option maxRecDepth 100000 in
theorem w_S_isFreeInode_20 {p : Program} {l : Launch} {e : Env} {s : State} {m : MethodId} {args : Array Value} {below : List Frame} {meth : Method} {c : Code} {D : va_G} {cI cZ : ClassId} {A : Nat → Prop} (h_p0 h_p0_maps h_p0_tables h_p0_words h_p0_blank h_p0_queue : Nat) (maps : (Nat → Int32)) (tables : (Nat → Int32)) (words : (Nat → Int32)) (blank : (Nat → Int32)) (queue : (Nat → Int32)) (r : Int32) (cx : cx_ok p s m args meth c b_S_isFreeInode 2 o_S_isFreeInode "OrderedVolume$Store" (some .boolean) D cI cZ A) : s_S_isFreeInode_20 maps tables = some r → wk_G p l e rm_S_isFreeInode s m args below meth c (sc_Qi below args s D cI cZ A (w_S cI cZ h_p0 h_p0_maps h_p0_tables h_p0_words h_p0_blank h_p0_queue maps tables words blank queue) r) D A 2 20 [] [(0, .ref h_p0)] (w_S cI cZ h_p0 h_p0_maps h_p0_tables h_p0_words h_p0_blank h_p0_queue maps tables words blank queue) := by
  obtain ⟨cf, hr, hlk, hK, hN, hA⟩ := cx
  have hx := cf.1
  have hb := cf.2.1
  have hown := cf.2.2.2.1
  have ht : ∀ w ∈ wA, w.before args s = true := fun w h => cf.2.2.2.2 w (List.mem_cons_of_mem _ h)
  intro  h H locs ls hl hP hD hS
  unfold s_S_isFreeInode_20 at h
  refine lv_iconst (v := (nI 0)) hx hb d_S_isFreeInode_20 (by decide) ?_
  have hz : ((nI 0) : Int32) = 0 ∨ ((nI 0) : Int32) = 1 := by decide
  cases h
  exact sc_zret cf hr hlk hz hK hP hD hS d_S_isFreeInode_21
set_option maxHeartbeats 4000000 in
set_option maxRecDepth 100000 in
theorem c_S_isFreeInode (l : Launch) (D : va_G) (cI cZ : ClassId) (h_p0 h_p0_maps h_p0_tables h_p0_words h_p0_blank h_p0_queue : Nat) (maps : (Nat → Int32)) (tables : (Nat → Int32)) (words : (Nat → Int32)) (blank : (Nat → Int32)) (queue : (Nat → Int32)) (x1 : Int32) (r : Int32) (h : s_S_isFreeInode maps tables x1 = some r) : sc_i l y_S_isFreeInode (o_S_isFreeInode :: wA) rm_S_isFreeInode D cI cZ [.ref h_p0, .int x1] (w_S cI cZ h_p0 h_p0_maps h_p0_tables h_p0_words h_p0_blank h_p0_queue maps tables words blank queue) (w_S cI cZ h_p0 h_p0_maps h_p0_tables h_p0_words h_p0_blank h_p0_queue maps tables words blank queue) r := by
  refine sc_i_of (cc := b_S_isFreeInode) (maxL := 2) (ret := (some .boolean)) (by decide) rfl (Nat.le_of_ble_eq_true rfl) ?_
  intro p e s m below meth c A cf hr hlk hK hN hA H locs ls hl hP hD hS
  have hx := cf.1
  have hb := cf.2.1
  have hown := cf.2.2.2.1
  have ht : ∀ w ∈ wA, w.before _ s = true := fun w h => cf.2.2.2.2 w (List.mem_cons_of_mem _ h)
  unfold s_S_isFreeInode at h
  have hl : lv_has ls 2 [(0, .ref h_p0), (1, .int x1)] := hl
  refine lv_aload_n hx hb d_S_isFreeInode_0 rfl (lv_at hl 0 rfl) ?_
  refine lv_iload_n hx hb d_S_isFreeInode_1 rfl (lv_at hl 1 rfl) ?_
  obtain ⟨r2, h2, h⟩ := bd_some h
  refine wk_Vi (As := [.int x1]) (rest := []) (wc := (w_S cI cZ h_p0 h_p0_maps h_p0_tables h_p0_words h_p0_blank h_p0_queue maps tables words blank queue)) (w1 := (w_S cI cZ h_p0 h_p0_maps h_p0_tables h_p0_words h_p0_blank h_p0_queue maps tables words blank queue)) (wr := []) (wz := (w_S cI cZ h_p0 h_p0_maps h_p0_tables h_p0_words h_p0_blank h_p0_queue maps tables words blank queue)) cf hK hN hA (c_S_inodeMark l D cI cZ h_p0 h_p0_maps h_p0_tables h_p0_words h_p0_blank h_p0_queue maps tables words blank queue x1 r2 h2) k_S_70 ⟨rfl, rfl, by decide, by decide⟩ 0 rfl rfl rfl hl hP hD hS [0, 1, 2, 3, 4, 5] [] [0, 1, 2, 3, 4, 5] rfl rfl rfl (by decide) rfl rfl rfl rfl rfl (Nat.le_of_ble_eq_true rfl) rfl d_S_isFreeInode_2 (fun H locs hP hD hS => ?_)
  refine lv_if_ne hx hb d_S_isFreeInode_5 rfl (fun hc => ?_) (fun hc => ?_)
  · rw [if_neg hc] at h
    exact w_S_isFreeInode_20 h_p0 h_p0_maps h_p0_tables h_p0_words h_p0_blank h_p0_queue maps tables words blank queue r ⟨cf, hr, hlk, hK, hN, hA⟩ h H locs ls (lv_sub hl [0] rfl) hP hD hS
  · rw [if_pos hc] at h
    refine lv_aload_n hx hb d_S_isFreeInode_8 rfl (lv_at hl 0 rfl) ?_
    refine lv_iload_n hx hb d_S_isFreeInode_9 rfl (lv_at hl 1 rfl) ?_
    obtain ⟨r10, h10, h⟩ := bd_some h
    refine wk_Vi (As := [.int x1]) (rest := []) (wc := (w_S cI cZ h_p0 h_p0_maps h_p0_tables h_p0_words h_p0_blank h_p0_queue maps tables words blank queue)) (w1 := (w_S cI cZ h_p0 h_p0_maps h_p0_tables h_p0_words h_p0_blank h_p0_queue maps tables words blank queue)) (wr := []) (wz := (w_S cI cZ h_p0 h_p0_maps h_p0_tables h_p0_words h_p0_blank h_p0_queue maps tables words blank queue)) cf hK hN hA (c_S_kind l D cI cZ h_p0 h_p0_maps h_p0_tables h_p0_words h_p0_blank h_p0_queue maps tables words blank queue x1 r10 h10) k_S_73 ⟨rfl, rfl, by decide, by decide⟩ 0 rfl rfl rfl hl hP hD hS [0, 1, 2, 3, 4, 5] [] [0, 1, 2, 3, 4, 5] rfl rfl rfl (by decide) rfl rfl rfl rfl rfl (Nat.le_of_ble_eq_true rfl) rfl d_S_isFreeInode_10 (fun H locs hP hD hS => ?_)
    refine lv_if_ne hx hb d_S_isFreeInode_13 rfl (fun hc => ?_) (fun hc => ?_)
    · rw [if_neg hc] at h
      exact w_S_isFreeInode_20 h_p0 h_p0_maps h_p0_tables h_p0_words h_p0_blank h_p0_queue maps tables words blank queue r ⟨cf, hr, hlk, hK, hN, hA⟩ h H locs ls (lv_sub hl [0] rfl) hP hD hS
    · rw [if_pos hc] at h
      refine lv_iconst (v := (nI 1)) hx hb d_S_isFreeInode_16 (by decide) ?_
      refine lv_goto hx hb d_S_isFreeInode_17 rfl ?_
      have hz : ((nI 1) : Int32) = 0 ∨ ((nI 1) : Int32) = 1 := by decide
      cases h
      exact sc_zret cf hr hlk hz hK hP hD hS d_S_isFreeInode_21
set_option maxHeartbeats 4000000 in
set_option maxRecDepth 100000 in
theorem w_S_freeInode_19 {p : Program} {l : Launch} {e : Env} {s : State} {m : MethodId} {args : Array Value} {below : List Frame} {meth : Method} {c : Code} {D : va_G} {cI cZ : ClassId} {A : Nat → Prop} (h_p0 h_p0_maps h_p0_tables h_p0_words h_p0_blank h_p0_queue : Nat) (F : Nat) (maps : (Nat → Int32)) (tables : (Nat → Int32)) (words : (Nat → Int32)) (blank : (Nat → Int32)) (queue : (Nat → Int32)) (r : Int32) (k2 : Int32 → Int32 → Option (Int32)) (cx : cx_ok p s m args meth c b_S_freeInode 5 o_S_freeInode "OrderedVolume$Store" (some .int) D cI cZ A) (h2 : (∀ (x1 : Int32) (x2 : Int32), k2 x1 x2 = some r → wk_G p l e rm_S_freeInode s m args below meth c (sc_Qi below args s D cI cZ A (w_S cI cZ h_p0 h_p0_maps h_p0_tables h_p0_words h_p0_blank h_p0_queue maps tables words blank queue) r) D A 5 2 [] [(0, .ref h_p0), (1, .int x1), (2, .int x2)] (w_S cI cZ h_p0 h_p0_maps h_p0_tables h_p0_words h_p0_blank h_p0_queue maps tables words blank queue))) : ∀ (n : Nat) (x1 : Int32) (x2 : Int32) (x3 : Int32) (x4 : Int32), s_S_freeInode_19 F maps tables k2 n x1 x2 x3 x4 = some r → wk_G p l e rm_S_freeInode s m args below meth c (sc_Qi below args s D cI cZ A (w_S cI cZ h_p0 h_p0_maps h_p0_tables h_p0_words h_p0_blank h_p0_queue maps tables words blank queue) r) D A 5 19 [] [(0, .ref h_p0), (1, .int x1), (2, .int x2), (3, .int x3), (4, .int x4)] (w_S cI cZ h_p0 h_p0_maps h_p0_tables h_p0_words h_p0_blank h_p0_queue maps tables words blank queue) := by
  obtain ⟨cf, hr, hlk, hK, hN, hA⟩ := cx
  have hx := cf.1
  have hb := cf.2.1
  have hown := cf.2.2.2.1
  have ht : ∀ w ∈ wA, w.before args s = true := fun w h => cf.2.2.2.2 w (List.mem_cons_of_mem _ h)
  intro n
  induction n with
  | zero => intro x1 x2 x3 x4 h; cases (show (none : Option (Int32)) = some _ from h)
  | succ n ih =>
    intro x1 x2 x3 x4 h H locs ls hl hP hD hS
    unfold s_S_freeInode_19 at h
    refine lv_iload hx hb d_S_freeInode_19 (lv_at hl 4 rfl) ?_
    refine lv_iload_n hx hb d_S_freeInode_21 rfl (lv_at hl 3 rfl) ?_
    refine lv_bipush (v := (nI 6)) hx hb d_S_freeInode_22 (by decide) ?_
    refine lv_iadd hx hb d_S_freeInode_24 ?_
    refine lv_icmp_ge hx hb d_S_freeInode_25 rfl (fun hc => ?_) (fun hc => ?_)
    · rw [if_pos hc] at h
      refine lv_iinc (k := 2) (v := (x2 + (nI 1))) (lv' := [(2, .int (x2 + (nI 1))), (0, .ref h_p0), (1, .int x1), (3, .int x3), (4, .int x4)]) hx hb d_S_freeInode_46 hl rfl rfl (by decide) rfl (fun ls hl => ?_)
      refine lv_goto hx hb d_S_freeInode_49 rfl ?_
      exact h2 x1 (x2 + (nI 1)) h H locs ls (lv_sub hl [1, 2, 0] rfl) hP hD hS
    · rw [if_neg hc] at h
      refine lv_aload_n hx hb d_S_freeInode_28 rfl (lv_at hl 0 rfl) ?_
      refine lv_iload hx hb d_S_freeInode_29 (lv_at hl 4 rfl) ?_
      obtain ⟨r31, h31, h⟩ := bd_some h
      refine wk_Vi (As := [.int x4]) (rest := []) (wc := (w_S cI cZ h_p0 h_p0_maps h_p0_tables h_p0_words h_p0_blank h_p0_queue maps tables words blank queue)) (w1 := (w_S cI cZ h_p0 h_p0_maps h_p0_tables h_p0_words h_p0_blank h_p0_queue maps tables words blank queue)) (wr := []) (wz := (w_S cI cZ h_p0 h_p0_maps h_p0_tables h_p0_words h_p0_blank h_p0_queue maps tables words blank queue)) cf hK hN hA (c_S_isFreeInode l D cI cZ h_p0 h_p0_maps h_p0_tables h_p0_words h_p0_blank h_p0_queue maps tables words blank queue x4 r31 h31) k_S_76 ⟨rfl, rfl, by decide, by decide⟩ 0 rfl rfl rfl hl hP hD hS [0, 1, 2, 3, 4, 5] [] [0, 1, 2, 3, 4, 5] rfl rfl rfl (by decide) rfl rfl rfl rfl rfl (Nat.le_of_ble_eq_true rfl) rfl d_S_freeInode_31 (fun H locs hP hD hS => ?_)
      refine lv_if_eq hx hb d_S_freeInode_34 rfl (fun hc => ?_) (fun hc => ?_)
      · rw [if_pos hc] at h
        refine lv_iinc (k := 4) (v := (x4 + (nI 1))) (lv' := [(4, .int (x4 + (nI 1))), (0, .ref h_p0), (1, .int x1), (2, .int x2), (3, .int x3)]) hx hb d_S_freeInode_40 hl rfl rfl (by decide) rfl (fun ls hl => ?_)
        refine lv_goto hx hb d_S_freeInode_43 rfl ?_
        exact ih x1 x2 x3 (x4 + (nI 1)) h H locs ls (lv_sub hl [1, 2, 3, 4, 0] rfl) hP hD hS
      · rw [if_neg hc] at h
        refine lv_iload hx hb d_S_freeInode_37 (lv_at hl 4 rfl) ?_
        cases h
        exact sc_iret cf hr hlk hK hP hD hS d_S_freeInode_39
set_option maxHeartbeats 4000000 in
set_option maxRecDepth 100000 in
theorem w_S_freeInode_2 {p : Program} {l : Launch} {e : Env} {s : State} {m : MethodId} {args : Array Value} {below : List Frame} {meth : Method} {c : Code} {D : va_G} {cI cZ : ClassId} {A : Nat → Prop} (h_p0 h_p0_maps h_p0_tables h_p0_words h_p0_blank h_p0_queue : Nat) (F : Nat) (maps : (Nat → Int32)) (tables : (Nat → Int32)) (words : (Nat → Int32)) (blank : (Nat → Int32)) (queue : (Nat → Int32)) (r : Int32) (cx : cx_ok p s m args meth c b_S_freeInode 5 o_S_freeInode "OrderedVolume$Store" (some .int) D cI cZ A) : ∀ (n : Nat) (x1 : Int32) (x2 : Int32), s_S_freeInode_2 F maps tables n x1 x2 = some r → wk_G p l e rm_S_freeInode s m args below meth c (sc_Qi below args s D cI cZ A (w_S cI cZ h_p0 h_p0_maps h_p0_tables h_p0_words h_p0_blank h_p0_queue maps tables words blank queue) r) D A 5 2 [] [(0, .ref h_p0), (1, .int x1), (2, .int x2)] (w_S cI cZ h_p0 h_p0_maps h_p0_tables h_p0_words h_p0_blank h_p0_queue maps tables words blank queue) := by
  obtain ⟨cf, hr, hlk, hK, hN, hA⟩ := cx
  have hx := cf.1
  have hb := cf.2.1
  have hown := cf.2.2.2.1
  have ht : ∀ w ∈ wA, w.before args s = true := fun w h => cf.2.2.2.2 w (List.mem_cons_of_mem _ h)
  intro n
  induction n with
  | zero => intro x1 x2 h; cases (show (none : Option (Int32)) = some _ from h)
  | succ n ih =>
    intro x1 x2 h H locs ls hl hP hD hS
    unfold s_S_freeInode_2 at h
    refine lv_iload_n hx hb d_S_freeInode_2 rfl (lv_at hl 2 rfl) ?_
    refine lv_iconst (v := (nI 3)) hx hb d_S_freeInode_3 (by decide) ?_
    refine lv_icmp_ge hx hb d_S_freeInode_4 rfl (fun hc => ?_) (fun hc => ?_)
    · rw [if_pos hc] at h
      refine lv_iconst (v := (-1)) hx hb d_S_freeInode_52 (by decide) ?_
      cases h
      exact sc_iret cf hr hlk hK hP hD hS d_S_freeInode_53
    · rw [if_neg hc] at h
      refine lv_iload_n hx hb d_S_freeInode_7 rfl (lv_at hl 1 rfl) ?_
      refine lv_iload_n hx hb d_S_freeInode_8 rfl (lv_at hl 2 rfl) ?_
      refine lv_iadd hx hb d_S_freeInode_9 ?_
      refine lv_iconst (v := (nI 3)) hx hb d_S_freeInode_10 (by decide) ?_
      refine lv_irem hx hb d_S_freeInode_11 (by decide) ?_
      refine lv_bipush (v := (nI 6)) hx hb d_S_freeInode_12 (by decide) ?_
      refine lv_imul hx hb d_S_freeInode_14 ?_
      refine lv_istore_n (lv' := [(3, .int (((x1 + x2) - (x1 + x2) / (nI 3) * (nI 3)) * (nI 6))), (0, .ref h_p0), (1, .int x1), (2, .int x2)]) hx hb d_S_freeInode_15 rfl hl (by decide) rfl (fun ls hl => ?_)
      refine lv_iload_n hx hb d_S_freeInode_16 rfl (lv_at hl 0 rfl) ?_
      refine lv_istore (lv' := [(4, .int (((x1 + x2) - (x1 + x2) / (nI 3) * (nI 3)) * (nI 6))), (3, .int (((x1 + x2) - (x1 + x2) / (nI 3) * (nI 3)) * (nI 6))), (0, .ref h_p0), (1, .int x1), (2, .int x2)]) hx hb d_S_freeInode_17 hl (by decide) rfl (fun ls hl => ?_)
      exact w_S_freeInode_19 h_p0 h_p0_maps h_p0_tables h_p0_words h_p0_blank h_p0_queue F maps tables words blank queue r _ ⟨cf, hr, hlk, hK, hN, hA⟩ ih F x1 x2 (((x1 + x2) - (x1 + x2) / (nI 3) * (nI 3)) * (nI 6)) (((x1 + x2) - (x1 + x2) / (nI 3) * (nI 3)) * (nI 6)) h H locs ls (lv_sub hl [2, 3, 4, 1, 0] rfl) hP hD hS
set_option maxHeartbeats 4000000 in
set_option maxRecDepth 100000 in
theorem c_S_freeInode (l : Launch) (D : va_G) (cI cZ : ClassId) (h_p0 h_p0_maps h_p0_tables h_p0_words h_p0_blank h_p0_queue : Nat) (F : Nat) (maps : (Nat → Int32)) (tables : (Nat → Int32)) (words : (Nat → Int32)) (blank : (Nat → Int32)) (queue : (Nat → Int32)) (x1 : Int32) (r : Int32) (h : s_S_freeInode F maps tables x1 = some r) : sc_i l y_S_freeInode (o_S_freeInode :: wA) rm_S_freeInode D cI cZ [.ref h_p0, .int x1] (w_S cI cZ h_p0 h_p0_maps h_p0_tables h_p0_words h_p0_blank h_p0_queue maps tables words blank queue) (w_S cI cZ h_p0 h_p0_maps h_p0_tables h_p0_words h_p0_blank h_p0_queue maps tables words blank queue) r := by
  refine sc_i_of (cc := b_S_freeInode) (maxL := 5) (ret := (some .int)) (by decide) rfl (Nat.le_of_ble_eq_true rfl) ?_
  intro p e s m below meth c A cf hr hlk hK hN hA H locs ls hl hP hD hS
  have hx := cf.1
  have hb := cf.2.1
  have hown := cf.2.2.2.1
  have ht : ∀ w ∈ wA, w.before _ s = true := fun w h => cf.2.2.2.2 w (List.mem_cons_of_mem _ h)
  unfold s_S_freeInode at h
  have hl : lv_has ls 5 [(0, .ref h_p0), (1, .int x1)] := hl
  refine lv_iconst (v := (nI 0)) hx hb d_S_freeInode_0 (by decide) ?_
  refine lv_istore_n (lv' := [(2, .int (nI 0)), (0, .ref h_p0), (1, .int x1)]) hx hb d_S_freeInode_1 rfl hl (by decide) rfl (fun ls hl => ?_)
  exact w_S_freeInode_2 h_p0 h_p0_maps h_p0_tables h_p0_words h_p0_blank h_p0_queue F maps tables words blank queue r ⟨cf, hr, hlk, hK, hN, hA⟩ F x1 (nI 0) h H locs ls (lv_sub hl [1, 2, 0] rfl) hP hD hS
set_option maxHeartbeats 4000000 in
set_option maxRecDepth 100000 in
theorem c_S_isBlank (l : Launch) (D : va_G) (cI cZ : ClassId) (h_p0 h_p0_maps h_p0_tables h_p0_words h_p0_blank h_p0_queue : Nat) (maps : (Nat → Int32)) (tables : (Nat → Int32)) (words : (Nat → Int32)) (blank : (Nat → Int32)) (queue : (Nat → Int32)) (x1 : Int32) (r : Int32) (h : s_S_isBlank blank x1 = some r) : sc_i l y_S_isBlank (o_S_isBlank :: wA) rm_S_isBlank D cI cZ [.ref h_p0, .int x1] (w_S cI cZ h_p0 h_p0_maps h_p0_tables h_p0_words h_p0_blank h_p0_queue maps tables words blank queue) (w_S cI cZ h_p0 h_p0_maps h_p0_tables h_p0_words h_p0_blank h_p0_queue maps tables words blank queue) r := by
  refine sc_i_of (cc := b_S_isBlank) (maxL := 2) (ret := (some .boolean)) (by decide) rfl (Nat.le_of_ble_eq_true rfl) ?_
  intro p e s m below meth c A cf hr hlk hK hN hA H locs ls hl hP hD hS
  have hx := cf.1
  have hb := cf.2.1
  have hown := cf.2.2.2.1
  have ht : ∀ w ∈ wA, w.before _ s = true := fun w h => cf.2.2.2.2 w (List.mem_cons_of_mem _ h)
  unfold s_S_isBlank at h
  have hl : lv_has ls 2 [(0, .ref h_p0), (1, .int x1)] := hl
  refine lv_aload_n hx hb d_S_isBlank_0 rfl (lv_at hl 0 rfl) ?_
  refine va_get (D := D) (ci := 0) (v := .ref h_p0_blank) (C := R_S) (T := F_S) (N := 5) hx hb ht in_S hown hK hP 0 rfl rfl 3 (by decide) (ht _ f_S_21) (fun _ h9 => h9) rfl d_S_isBlank_1 ?_
  refine lv_iload_n hx hb d_S_isBlank_4 rfl (lv_at hl 1 rfl) ?_
  obtain ⟨hin, h⟩ := gr_some h
  refine va_zald hx hb hK hP 4 1 rfl rfl hin d_S_isBlank_5 ?_
  generalize blank x1.toNatClampNeg = v5 at h ⊢
  obtain ⟨hz, h⟩ := gz_some h
  cases h
  exact sc_zret cf hr hlk hz hK hP hD hS d_S_isBlank_6
set_option maxHeartbeats 4000000 in
set_option maxRecDepth 100000 in
theorem c_S_links (l : Launch) (D : va_G) (cI cZ : ClassId) (h_p0 h_p0_maps h_p0_tables h_p0_words h_p0_blank h_p0_queue : Nat) (maps : (Nat → Int32)) (tables : (Nat → Int32)) (words : (Nat → Int32)) (blank : (Nat → Int32)) (queue : (Nat → Int32)) (x1 : Int32) (r : Int32) (h : s_S_links tables x1 = some r) : sc_i l y_S_links (o_S_links :: wA) rm_S_links D cI cZ [.ref h_p0, .int x1] (w_S cI cZ h_p0 h_p0_maps h_p0_tables h_p0_words h_p0_blank h_p0_queue maps tables words blank queue) (w_S cI cZ h_p0 h_p0_maps h_p0_tables h_p0_words h_p0_blank h_p0_queue maps tables words blank queue) r := by
  refine sc_i_of (cc := b_S_links) (maxL := 2) (ret := (some .int)) (by decide) rfl (Nat.le_of_ble_eq_true rfl) ?_
  intro p e s m below meth c A cf hr hlk hK hN hA H locs ls hl hP hD hS
  have hx := cf.1
  have hb := cf.2.1
  have hown := cf.2.2.2.1
  have ht : ∀ w ∈ wA, w.before _ s = true := fun w h => cf.2.2.2.2 w (List.mem_cons_of_mem _ h)
  unfold s_S_links at h
  have hl : lv_has ls 2 [(0, .ref h_p0), (1, .int x1)] := hl
  refine lv_aload_n hx hb d_S_links_0 rfl (lv_at hl 0 rfl) ?_
  refine va_get (D := D) (ci := 0) (v := .ref h_p0_tables) (C := R_S) (T := F_S) (N := 5) hx hb ht in_S hown hK hP 0 rfl rfl 1 (by decide) (ht _ f_S_15) (fun _ h9 => h9) rfl d_S_links_1 ?_
  refine lv_iload_n hx hb d_S_links_4 rfl (lv_at hl 1 rfl) ?_
  refine lv_iconst (v := (nI 5)) hx hb d_S_links_5 (by decide) ?_
  refine lv_imul hx hb d_S_links_6 ?_
  refine lv_iconst (v := (nI 1)) hx hb d_S_links_7 (by decide) ?_
  refine lv_iadd hx hb d_S_links_8 ?_
  obtain ⟨hin, h⟩ := gr_some h
  refine va_iald hx hb hK hP 2 0 rfl rfl hin d_S_links_9 ?_
  generalize tables ((x1 * (nI 5)) + (nI 1)).toNatClampNeg = v9 at h ⊢
  cases h
  exact sc_iret cf hr hlk hK hP hD hS d_S_links_10
set_option maxHeartbeats 4000000 in
set_option maxRecDepth 100000 in
theorem w_S_namer_10 {p : Program} {l : Launch} {e : Env} {s : State} {m : MethodId} {args : Array Value} {below : List Frame} {meth : Method} {c : Code} {D : va_G} {cI cZ : ClassId} {A : Nat → Prop} (h_p0 h_p0_maps h_p0_tables h_p0_words h_p0_blank h_p0_queue : Nat) (F : Nat) (maps : (Nat → Int32)) (tables : (Nat → Int32)) (words : (Nat → Int32)) (blank : (Nat → Int32)) (queue : (Nat → Int32)) (r : Int32) (k2 : Int32 → Int32 → Option (Int32)) (cx : cx_ok p s m args meth c b_S_namer 4 o_S_namer "OrderedVolume$Store" (some .int) D cI cZ A) (h2 : (∀ (x1 : Int32) (x2 : Int32), k2 x1 x2 = some r → wk_G p l e rm_S_namer s m args below meth c (sc_Qi below args s D cI cZ A (w_S cI cZ h_p0 h_p0_maps h_p0_tables h_p0_words h_p0_blank h_p0_queue maps tables words blank queue) r) D A 4 2 [] [(0, .ref h_p0), (1, .int x1), (2, .int x2)] (w_S cI cZ h_p0 h_p0_maps h_p0_tables h_p0_words h_p0_blank h_p0_queue maps tables words blank queue))) : ∀ (n : Nat) (x1 : Int32) (x2 : Int32) (x3 : Int32), s_S_namer_10 F tables k2 n x1 x2 x3 = some r → wk_G p l e rm_S_namer s m args below meth c (sc_Qi below args s D cI cZ A (w_S cI cZ h_p0 h_p0_maps h_p0_tables h_p0_words h_p0_blank h_p0_queue maps tables words blank queue) r) D A 4 10 [] [(0, .ref h_p0), (1, .int x1), (2, .int x2), (3, .int x3)] (w_S cI cZ h_p0 h_p0_maps h_p0_tables h_p0_words h_p0_blank h_p0_queue maps tables words blank queue) := by
  obtain ⟨cf, hr, hlk, hK, hN, hA⟩ := cx
  have hx := cf.1
  have hb := cf.2.1
  have hown := cf.2.2.2.1
  have ht : ∀ w ∈ wA, w.before args s = true := fun w h => cf.2.2.2.2 w (List.mem_cons_of_mem _ h)
  intro n
  induction n with
  | zero => intro x1 x2 x3 h; cases (show (none : Option (Int32)) = some _ from h)
  | succ n ih =>
    intro x1 x2 x3 h H locs ls hl hP hD hS
    unfold s_S_namer_10 at h
    refine lv_iload_n hx hb d_S_namer_10 rfl (lv_at hl 3 rfl) ?_
    refine lv_iconst (v := (nI 3)) hx hb d_S_namer_11 (by decide) ?_
    refine lv_icmp_ge hx hb d_S_namer_12 rfl (fun hc => ?_) (fun hc => ?_)
    · rw [if_pos hc] at h
      refine lv_iinc (k := 2) (v := (x2 + (nI 1))) (lv' := [(2, .int (x2 + (nI 1))), (0, .ref h_p0), (1, .int x1), (3, .int x3)]) hx hb d_S_namer_33 hl rfl rfl (by decide) rfl (fun ls hl => ?_)
      refine lv_goto hx hb d_S_namer_36 rfl ?_
      exact h2 x1 (x2 + (nI 1)) h H locs ls (lv_sub hl [1, 2, 0] rfl) hP hD hS
    · rw [if_neg hc] at h
      refine lv_aload_n hx hb d_S_namer_15 rfl (lv_at hl 0 rfl) ?_
      refine lv_iload_n hx hb d_S_namer_16 rfl (lv_at hl 2 rfl) ?_
      refine lv_iload_n hx hb d_S_namer_17 rfl (lv_at hl 3 rfl) ?_
      obtain ⟨r18, h18, h⟩ := bd_some h
      refine wk_Vi (As := [.int x2, .int x3]) (rest := []) (wc := (w_S cI cZ h_p0 h_p0_maps h_p0_tables h_p0_words h_p0_blank h_p0_queue maps tables words blank queue)) (w1 := (w_S cI cZ h_p0 h_p0_maps h_p0_tables h_p0_words h_p0_blank h_p0_queue maps tables words blank queue)) (wr := []) (wz := (w_S cI cZ h_p0 h_p0_maps h_p0_tables h_p0_words h_p0_blank h_p0_queue maps tables words blank queue)) cf hK hN hA (c_S_pointer l D cI cZ h_p0 h_p0_maps h_p0_tables h_p0_words h_p0_blank h_p0_queue maps tables words blank queue x2 x3 r18 h18) k_S_63 ⟨rfl, rfl, by decide, by decide⟩ 0 rfl rfl rfl hl hP hD hS [0, 1, 2, 3, 4, 5] [] [0, 1, 2, 3, 4, 5] rfl rfl rfl (by decide) rfl rfl rfl rfl rfl (Nat.le_of_ble_eq_true rfl) rfl d_S_namer_18 (fun H locs hP hD hS => ?_)
      refine lv_iload_n hx hb d_S_namer_21 rfl (lv_at hl 1 rfl) ?_
      refine lv_icmp_ne hx hb d_S_namer_22 rfl (fun hc => ?_) (fun hc => ?_)
      · rw [if_neg hc] at h
        refine lv_iinc (k := 3) (v := (x3 + (nI 1))) (lv' := [(3, .int (x3 + (nI 1))), (0, .ref h_p0), (1, .int x1), (2, .int x2)]) hx hb d_S_namer_27 hl rfl rfl (by decide) rfl (fun ls hl => ?_)
        refine lv_goto hx hb d_S_namer_30 rfl ?_
        exact ih x1 x2 (x3 + (nI 1)) h H locs ls (lv_sub hl [1, 2, 3, 0] rfl) hP hD hS
      · rw [if_pos hc] at h
        refine lv_iload_n hx hb d_S_namer_25 rfl (lv_at hl 2 rfl) ?_
        cases h
        exact sc_iret cf hr hlk hK hP hD hS d_S_namer_26
