set_option maxHeartbeats 4000000 in
set_option maxRecDepth 100000 in
theorem c_V_remove (l : Launch) (D : va_G) (cI cZ : ClassId) (h_p0 h_p0_m h_p0_m_maps h_p0_m_tables h_p0_m_words h_p0_m_blank h_p0_m_queue h_p0_d h_p0_d_maps h_p0_d_tables h_p0_d_words h_p0_d_blank h_p0_d_queue h_p0_young h_p0_dropped h_p0_leaving : Nat) (F : Nat) (m_maps : (Nat → Int32)) (m_tables : (Nat → Int32)) (m_words : (Nat → Int32)) (m_blank : (Nat → Int32)) (m_queue : (Nat → Int32)) (d_maps : (Nat → Int32)) (d_tables : (Nat → Int32)) (d_words : (Nat → Int32)) (d_blank : (Nat → Int32)) (d_queue : (Nat → Int32)) (young : (Nat → Int32)) (dropped : (Nat → Int32)) (leaving : (Nat → Int32)) (ren : Int32) (m_maps' : (Nat → Int32)) (m_tables' : (Nat → Int32)) (m_words' : (Nat → Int32)) (m_queue' : (Nat → Int32)) (young' : (Nat → Int32)) (dropped' : (Nat → Int32)) (leaving' : (Nat → Int32)) (x1 : Int32) (x2 : Int32) (r : Int32) (h : s_V_remove F m_blank d_tables d_words d_blank x1 x2 m_maps m_tables m_words m_queue young dropped leaving = some (r, m_maps', m_tables', m_words', m_queue', young', dropped', leaving')) : sc_i l y_V_remove (o_V_remove :: wA) rm_V_remove D cI cZ [.ref h_p0, .int x1, .int x2] (w_V cI cZ h_p0 h_p0_m h_p0_m_maps h_p0_m_tables h_p0_m_words h_p0_m_blank h_p0_m_queue h_p0_d h_p0_d_maps h_p0_d_tables h_p0_d_words h_p0_d_blank h_p0_d_queue h_p0_young h_p0_dropped h_p0_leaving m_maps m_tables m_words m_blank m_queue d_maps d_tables d_words d_blank d_queue young dropped leaving ren) (w_V cI cZ h_p0 h_p0_m h_p0_m_maps h_p0_m_tables h_p0_m_words h_p0_m_blank h_p0_m_queue h_p0_d h_p0_d_maps h_p0_d_tables h_p0_d_words h_p0_d_blank h_p0_d_queue h_p0_young h_p0_dropped h_p0_leaving (m_maps') (m_tables') (m_words') m_blank (m_queue') d_maps d_tables d_words d_blank d_queue (young') (dropped') (leaving') ren) r := by
  refine sc_i_of (cc := b_V_remove) (maxL := 5) (ret := (some .int)) (by decide) rfl (Nat.le_of_ble_eq_true rfl) ?_
  intro p e s m below meth c A cf hr hlk hK hN hA H locs ls hl hP hD hS
  have hx := cf.1
  have hb := cf.2.1
  have hown := cf.2.2.2.1
  have ht : ∀ w ∈ wA, w.before _ s = true := fun w h => cf.2.2.2.2 w (List.mem_cons_of_mem _ h)
  unfold s_V_remove at h
  have hl : lv_has ls 5 [(0, .ref h_p0), (1, .int x1), (2, .int x2)] := hl
  refine lv_aload_n hx hb d_V_remove_0 rfl (lv_at hl 0 rfl) ?_
  refine lv_iload_n hx hb d_V_remove_1 rfl (lv_at hl 1 rfl) ?_
  obtain ⟨⟨r2, m_queue_2⟩, h2, h⟩ := bd_some h
  dsimp only at h
  refine wk_Vi (As := [.int x1]) (rest := []) (wc := (w_V cI cZ h_p0 h_p0_m h_p0_m_maps h_p0_m_tables h_p0_m_words h_p0_m_blank h_p0_m_queue h_p0_d h_p0_d_maps h_p0_d_tables h_p0_d_words h_p0_d_blank h_p0_d_queue h_p0_young h_p0_dropped h_p0_leaving m_maps m_tables m_words m_blank m_queue d_maps d_tables d_words d_blank d_queue young dropped leaving ren)) (w1 := (w_V cI cZ h_p0 h_p0_m h_p0_m_maps h_p0_m_tables h_p0_m_words h_p0_m_blank h_p0_m_queue h_p0_d h_p0_d_maps h_p0_d_tables h_p0_d_words h_p0_d_blank h_p0_d_queue h_p0_young h_p0_dropped h_p0_leaving m_maps m_tables m_words m_blank m_queue_2 d_maps d_tables d_words d_blank d_queue young dropped leaving ren)) (wr := []) (wz := (w_V cI cZ h_p0 h_p0_m h_p0_m_maps h_p0_m_tables h_p0_m_words h_p0_m_blank h_p0_m_queue h_p0_d h_p0_d_maps h_p0_d_tables h_p0_d_words h_p0_d_blank h_p0_d_queue h_p0_young h_p0_dropped h_p0_leaving m_maps m_tables m_words m_blank m_queue_2 d_maps d_tables d_words d_blank d_queue young dropped leaving ren)) cf hK hN hA (c_V_isTreeDirectory l D cI cZ h_p0 h_p0_m h_p0_m_maps h_p0_m_tables h_p0_m_words h_p0_m_blank h_p0_m_queue h_p0_d h_p0_d_maps h_p0_d_tables h_p0_d_words h_p0_d_blank h_p0_d_queue h_p0_young h_p0_dropped h_p0_leaving F m_maps m_tables m_words m_blank m_queue d_maps d_tables d_words d_blank d_queue young dropped leaving ren m_queue_2 x1 r2 h2) k_V_33 ⟨rfl, rfl, by decide, by decide⟩ 1 rfl rfl rfl hl hP hD hS [0, 1, 2, 3, 4, 5, 6, 7, 8, 9, 10, 11, 12, 13, 14, 15] [] [0, 1, 2, 3, 4, 5, 6, 7, 8, 9, 10, 11, 12, 13, 14, 15] rfl rfl rfl (by decide) rfl rfl rfl rfl rfl (Nat.le_of_ble_eq_true rfl) rfl d_V_remove_2 (fun H locs hP hD hS => ?_)
  refine lv_if_ne hx hb d_V_remove_5 rfl (fun hc => ?_) (fun hc => ?_)
  · rw [if_neg hc] at h
    refine lv_aload_n hx hb d_V_remove_10 rfl (lv_at hl 0 rfl) ?_
    refine va_get (D := D) (ci := 1) (v := .ref h_p0_m) (C := R_V) (T := F_V) (N := 6) hx hb ht in_V hown hK hP 0 rfl rfl 0 (by decide) (ht _ f_V_10) (fun _ h9 => h9) rfl d_V_remove_11 ?_
    refine lv_iload_n hx hb d_V_remove_14 rfl (lv_at hl 1 rfl) ?_
    refine lv_iload_n hx hb d_V_remove_15 rfl (lv_at hl 2 rfl) ?_
    obtain ⟨r16, h16, h⟩ := bd_some h
    refine wk_Vi (As := [.int x1, .int x2]) (rest := []) (wc := (w_S cI cZ h_p0_m h_p0_m_maps h_p0_m_tables h_p0_m_words h_p0_m_blank h_p0_m_queue m_maps m_tables m_words m_blank m_queue_2)) (w1 := (w_S cI cZ h_p0_m h_p0_m_maps h_p0_m_tables h_p0_m_words h_p0_m_blank h_p0_m_queue m_maps m_tables m_words m_blank m_queue_2)) (wr := [(h_p0, .inr (1, [.ref h_p0_m, .ref h_p0_d, .ref h_p0_young, .ref h_p0_dropped, .ref h_p0_leaving, .int ren])), (h_p0_d, .inr (0, [.ref h_p0_d_maps, .ref h_p0_d_tables, .ref h_p0_d_words, .ref h_p0_d_blank, .ref h_p0_d_queue])), (h_p0_d_maps, .inl (cI, 48, .inl d_maps)), (h_p0_d_tables, .inl (cI, 90, .inl d_tables)), (h_p0_d_words, .inl (cI, 288, .inl d_words)), (h_p0_d_blank, .inl (cZ, 36, .inl d_blank)), (h_p0_d_queue, .inl (cI, 18, .inl d_queue)), (h_p0_young, .inl (cI, 36, .inl young)), (h_p0_dropped, .inl (cI, 36, .inl dropped)), (h_p0_leaving, .inl (cI, 18, .inl leaving))]) (wz := (w_V cI cZ h_p0 h_p0_m h_p0_m_maps h_p0_m_tables h_p0_m_words h_p0_m_blank h_p0_m_queue h_p0_d h_p0_d_maps h_p0_d_tables h_p0_d_words h_p0_d_blank h_p0_d_queue h_p0_young h_p0_dropped h_p0_leaving m_maps m_tables m_words m_blank m_queue_2 d_maps d_tables d_words d_blank d_queue young dropped leaving ren)) cf hK hN hA (c_S_cellOfName l D cI cZ h_p0_m h_p0_m_maps h_p0_m_tables h_p0_m_words h_p0_m_blank h_p0_m_queue F m_maps m_tables m_words m_blank m_queue_2 x1 x2 r16 h16) k_V_89 ⟨rfl, rfl, by decide, by decide⟩ 0 rfl rfl rfl hl hP hD hS [1, 2, 3, 4, 5, 6] [0, 7, 8, 9, 10, 11, 12, 13, 14, 15] [0, 10, 11, 12, 13, 14, 15, 1, 2, 3, 4, 5, 6, 7, 8, 9] rfl rfl rfl (by decide) rfl rfl rfl rfl rfl (Nat.le_of_ble_eq_true rfl) rfl d_V_remove_16 (fun H locs hP hD hS => ?_)
    refine lv_istore_n (lv' := [(3, .int r16), (0, .ref h_p0), (1, .int x1), (2, .int x2)]) hx hb d_V_remove_19 rfl hl (by decide) rfl (fun ls hl => ?_)
    refine lv_iload_n hx hb d_V_remove_20 rfl (lv_at hl 0 rfl) ?_
    refine lv_iconst (v := (-1)) hx hb d_V_remove_21 (by decide) ?_
    refine lv_icmp_ne hx hb d_V_remove_22 rfl (fun hc => ?_) (fun hc => ?_)
    · rw [if_neg hc] at h
      refine lv_aload_n hx hb d_V_remove_27 rfl (lv_at hl 1 rfl) ?_
      refine va_get (D := D) (ci := 1) (v := .ref h_p0_m) (C := R_V) (T := F_V) (N := 6) hx hb ht in_V hown hK hP 0 rfl rfl 0 (by decide) (ht _ f_V_10) (fun _ h9 => h9) rfl d_V_remove_28 ?_
      refine lv_iload_n hx hb d_V_remove_31 rfl (lv_at hl 2 rfl) ?_
      refine lv_iload_n hx hb d_V_remove_32 rfl (lv_at hl 0 rfl) ?_
      obtain ⟨r33, h33, h⟩ := bd_some h
      refine wk_Vi (As := [.int x1, .int r16]) (rest := []) (wc := (w_S cI cZ h_p0_m h_p0_m_maps h_p0_m_tables h_p0_m_words h_p0_m_blank h_p0_m_queue m_maps m_tables m_words m_blank m_queue_2)) (w1 := (w_S cI cZ h_p0_m h_p0_m_maps h_p0_m_tables h_p0_m_words h_p0_m_blank h_p0_m_queue m_maps m_tables m_words m_blank m_queue_2)) (wr := [(h_p0, .inr (1, [.ref h_p0_m, .ref h_p0_d, .ref h_p0_young, .ref h_p0_dropped, .ref h_p0_leaving, .int ren])), (h_p0_d, .inr (0, [.ref h_p0_d_maps, .ref h_p0_d_tables, .ref h_p0_d_words, .ref h_p0_d_blank, .ref h_p0_d_queue])), (h_p0_d_maps, .inl (cI, 48, .inl d_maps)), (h_p0_d_tables, .inl (cI, 90, .inl d_tables)), (h_p0_d_words, .inl (cI, 288, .inl d_words)), (h_p0_d_blank, .inl (cZ, 36, .inl d_blank)), (h_p0_d_queue, .inl (cI, 18, .inl d_queue)), (h_p0_young, .inl (cI, 36, .inl young)), (h_p0_dropped, .inl (cI, 36, .inl dropped)), (h_p0_leaving, .inl (cI, 18, .inl leaving))]) (wz := (w_V cI cZ h_p0 h_p0_m h_p0_m_maps h_p0_m_tables h_p0_m_words h_p0_m_blank h_p0_m_queue h_p0_d h_p0_d_maps h_p0_d_tables h_p0_d_words h_p0_d_blank h_p0_d_queue h_p0_young h_p0_dropped h_p0_leaving m_maps m_tables m_words m_blank m_queue_2 d_maps d_tables d_words d_blank d_queue young dropped leaving ren)) cf hK hN hA (c_S_entry l D cI cZ h_p0_m h_p0_m_maps h_p0_m_tables h_p0_m_words h_p0_m_blank h_p0_m_queue m_maps m_tables m_words m_blank m_queue_2 x1 r16 r33 h33) k_V_92 ⟨rfl, rfl, by decide, by decide⟩ 0 rfl rfl rfl hl hP hD hS [1, 2, 3, 4, 5, 6] [0, 7, 8, 9, 10, 11, 12, 13, 14, 15] [0, 10, 11, 12, 13, 14, 15, 1, 2, 3, 4, 5, 6, 7, 8, 9] rfl rfl rfl (by decide) rfl rfl rfl rfl rfl (Nat.le_of_ble_eq_true rfl) rfl d_V_remove_33 (fun H locs hP hD hS => ?_)
      refine lv_bipush (v := (nI 32)) hx hb d_V_remove_36 (by decide) ?_
      refine lv_irem hx hb d_V_remove_38 (by decide) ?_
      refine lv_istore (lv' := [(4, .int (r33 - r33 / (nI 32) * (nI 32))), (3, .int r16), (0, .ref h_p0), (1, .int x1), (2, .int x2)]) hx hb d_V_remove_39 hl (by decide) rfl (fun ls hl => ?_)
      refine lv_aload_n hx hb d_V_remove_41 rfl (lv_at hl 2 rfl) ?_
      refine va_get (D := D) (ci := 1) (v := .ref h_p0_m) (C := R_V) (T := F_V) (N := 6) hx hb ht in_V hown hK hP 0 rfl rfl 0 (by decide) (ht _ f_V_10) (fun _ h9 => h9) rfl d_V_remove_42 ?_
      refine lv_iload hx hb d_V_remove_45 (lv_at hl 0 rfl) ?_
      obtain ⟨r47, h47, h⟩ := bd_some h
      refine wk_Vi (As := [.int (r33 - r33 / (nI 32) * (nI 32))]) (rest := []) (wc := (w_S cI cZ h_p0_m h_p0_m_maps h_p0_m_tables h_p0_m_words h_p0_m_blank h_p0_m_queue m_maps m_tables m_words m_blank m_queue_2)) (w1 := (w_S cI cZ h_p0_m h_p0_m_maps h_p0_m_tables h_p0_m_words h_p0_m_blank h_p0_m_queue m_maps m_tables m_words m_blank m_queue_2)) (wr := [(h_p0, .inr (1, [.ref h_p0_m, .ref h_p0_d, .ref h_p0_young, .ref h_p0_dropped, .ref h_p0_leaving, .int ren])), (h_p0_d, .inr (0, [.ref h_p0_d_maps, .ref h_p0_d_tables, .ref h_p0_d_words, .ref h_p0_d_blank, .ref h_p0_d_queue])), (h_p0_d_maps, .inl (cI, 48, .inl d_maps)), (h_p0_d_tables, .inl (cI, 90, .inl d_tables)), (h_p0_d_words, .inl (cI, 288, .inl d_words)), (h_p0_d_blank, .inl (cZ, 36, .inl d_blank)), (h_p0_d_queue, .inl (cI, 18, .inl d_queue)), (h_p0_young, .inl (cI, 36, .inl young)), (h_p0_dropped, .inl (cI, 36, .inl dropped)), (h_p0_leaving, .inl (cI, 18, .inl leaving))]) (wz := (w_V cI cZ h_p0 h_p0_m h_p0_m_maps h_p0_m_tables h_p0_m_words h_p0_m_blank h_p0_m_queue h_p0_d h_p0_d_maps h_p0_d_tables h_p0_d_words h_p0_d_blank h_p0_d_queue h_p0_young h_p0_dropped h_p0_leaving m_maps m_tables m_words m_blank m_queue_2 d_maps d_tables d_words d_blank d_queue young dropped leaving ren)) cf hK hN hA (c_S_entryCount l D cI cZ h_p0_m h_p0_m_maps h_p0_m_tables h_p0_m_words h_p0_m_blank h_p0_m_queue F m_maps m_tables m_words m_blank m_queue_2 (r33 - r33 / (nI 32) * (nI 32)) r47 h47) k_V_95 ⟨rfl, rfl, by decide, by decide⟩ 0 rfl rfl rfl hl hP hD hS [1, 2, 3, 4, 5, 6] [0, 7, 8, 9, 10, 11, 12, 13, 14, 15] [0, 10, 11, 12, 13, 14, 15, 1, 2, 3, 4, 5, 6, 7, 8, 9] rfl rfl rfl (by decide) rfl rfl rfl rfl rfl (Nat.le_of_ble_eq_true rfl) rfl d_V_remove_47 (fun H locs hP hD hS => ?_)
      refine lv_if_le hx hb d_V_remove_50 rfl (fun hc => ?_) (fun hc => ?_)
      · rw [if_pos hc] at h
        refine lv_aload_n hx hb d_V_remove_56 rfl (lv_at hl 2 rfl) ?_
        refine lv_iload_n hx hb d_V_remove_57 rfl (lv_at hl 3 rfl) ?_
        refine lv_iload_n hx hb d_V_remove_58 rfl (lv_at hl 1 rfl) ?_
        obtain ⟨⟨m_maps_59, m_tables_59, m_words_59, young_59, dropped_59, leaving_59⟩, h59, h⟩ := bd_some h
        dsimp only at h
        refine wk_Vv (As := [.int x1, .int r16]) (rest := []) (wc := (w_V cI cZ h_p0 h_p0_m h_p0_m_maps h_p0_m_tables h_p0_m_words h_p0_m_blank h_p0_m_queue h_p0_d h_p0_d_maps h_p0_d_tables h_p0_d_words h_p0_d_blank h_p0_d_queue h_p0_young h_p0_dropped h_p0_leaving m_maps m_tables m_words m_blank m_queue_2 d_maps d_tables d_words d_blank d_queue young dropped leaving ren)) (w1 := (w_V cI cZ h_p0 h_p0_m h_p0_m_maps h_p0_m_tables h_p0_m_words h_p0_m_blank h_p0_m_queue h_p0_d h_p0_d_maps h_p0_d_tables h_p0_d_words h_p0_d_blank h_p0_d_queue h_p0_young h_p0_dropped h_p0_leaving m_maps_59 m_tables_59 m_words_59 m_blank m_queue_2 d_maps d_tables d_words d_blank d_queue young_59 dropped_59 leaving_59 ren)) (wr := []) (wz := (w_V cI cZ h_p0 h_p0_m h_p0_m_maps h_p0_m_tables h_p0_m_words h_p0_m_blank h_p0_m_queue h_p0_d h_p0_d_maps h_p0_d_tables h_p0_d_words h_p0_d_blank h_p0_d_queue h_p0_young h_p0_dropped h_p0_leaving m_maps_59 m_tables_59 m_words_59 m_blank m_queue_2 d_maps d_tables d_words d_blank d_queue young_59 dropped_59 leaving_59 ren)) cf hK hN hA (c_V_takeEntryAway l D cI cZ h_p0 h_p0_m h_p0_m_maps h_p0_m_tables h_p0_m_words h_p0_m_blank h_p0_m_queue h_p0_d h_p0_d_maps h_p0_d_tables h_p0_d_words h_p0_d_blank h_p0_d_queue h_p0_young h_p0_dropped h_p0_leaving F m_maps m_tables m_words m_blank m_queue_2 d_maps d_tables d_words d_blank d_queue young dropped leaving ren m_maps_59 m_tables_59 m_words_59 young_59 dropped_59 leaving_59 x1 r16 h59) k_V_98 ⟨rfl, rfl, by decide, by decide⟩ 1 rfl rfl rfl hl hP hD hS [0, 1, 2, 3, 4, 5, 6, 7, 8, 9, 10, 11, 12, 13, 14, 15] [] [0, 1, 2, 3, 4, 5, 6, 7, 8, 9, 10, 11, 12, 13, 14, 15] rfl rfl rfl (by decide) rfl rfl rfl rfl rfl (Nat.le_of_ble_eq_true rfl) rfl d_V_remove_59 (fun H locs hP hD hS => ?_)
        refine lv_iload hx hb d_V_remove_62 (lv_at hl 0 rfl) ?_
        cases h
        exact sc_iret cf hr hlk hK hP hD hS d_V_remove_64
      · rw [if_neg hc] at h
        refine lv_bipush (v := (-4)) hx hb d_V_remove_53 (by decide) ?_
        cases h
        exact sc_iret cf hr hlk hK hP hD hS d_V_remove_55
    · rw [if_pos hc] at h
      refine lv_iconst (v := (-1)) hx hb d_V_remove_25 (by decide) ?_
      cases h
      exact sc_iret cf hr hlk hK hP hD hS d_V_remove_26
  · rw [if_pos hc] at h
    refine lv_iconst (v := (-1)) hx hb d_V_remove_8 (by decide) ?_
    cases h
    exact sc_iret cf hr hlk hK hP hD hS d_V_remove_9
set_option maxHeartbeats 4000000 in
set_option maxRecDepth 100000 in
theorem w_V_rename_207 {p : Program} {l : Launch} {e : Env} {s : State} {m : MethodId} {args : Array Value} {below : List Frame} {meth : Method} {c : Code} {D : va_G} {cI cZ : ClassId} {A : Nat → Prop} (h_p0 h_p0_m h_p0_m_maps h_p0_m_tables h_p0_m_words h_p0_m_blank h_p0_m_queue h_p0_d h_p0_d_maps h_p0_d_tables h_p0_d_words h_p0_d_blank h_p0_d_queue h_p0_young h_p0_dropped h_p0_leaving : Nat) (F : Nat) (m_blank : (Nat → Int32)) (m_maps' : (Nat → Int32)) (m_tables' : (Nat → Int32)) (m_words' : (Nat → Int32)) (m_queue' : (Nat → Int32)) (d_maps' : (Nat → Int32)) (d_tables' : (Nat → Int32)) (d_words' : (Nat → Int32)) (d_blank' : (Nat → Int32)) (d_queue' : (Nat → Int32)) (young' : (Nat → Int32)) (dropped' : (Nat → Int32)) (leaving' : (Nat → Int32)) (ren' : Int32) (r : Int32) (cx : cx_ok p s m args meth c b_V_rename 9 o_V_rename "OrderedVolume" (some .int) D cI cZ A) : ∀ (x6 : Int32) (t1 : Int32) (m_maps : (Nat → Int32)) (m_tables : (Nat → Int32)) (m_words : (Nat → Int32)) (m_queue : (Nat → Int32)) (d_maps : (Nat → Int32)) (d_tables : (Nat → Int32)) (d_words : (Nat → Int32)) (d_blank : (Nat → Int32)) (d_queue : (Nat → Int32)) (young : (Nat → Int32)) (dropped : (Nat → Int32)) (leaving : (Nat → Int32)) (ren : Int32), s_V_rename_207 F m_blank x6 t1 m_maps m_tables m_words m_queue d_maps d_tables d_words d_blank d_queue young dropped leaving ren = some (r, m_maps', m_tables', m_words', m_queue', d_maps', d_tables', d_words', d_blank', d_queue', young', dropped', leaving', ren') → wk_G p l e rm_V_rename s m args below meth c (sc_Qi below args s D cI cZ A (w_V cI cZ h_p0 h_p0_m h_p0_m_maps h_p0_m_tables h_p0_m_words h_p0_m_blank h_p0_m_queue h_p0_d h_p0_d_maps h_p0_d_tables h_p0_d_words h_p0_d_blank h_p0_d_queue h_p0_young h_p0_dropped h_p0_leaving (m_maps') (m_tables') (m_words') m_blank (m_queue') (d_maps') (d_tables') (d_words') (d_blank') (d_queue') (young') (dropped') (leaving') (ren')) r) D A 9 207 [.int t1, .ref h_p0] [(0, .ref h_p0), (6, .int x6)] (w_V cI cZ h_p0 h_p0_m h_p0_m_maps h_p0_m_tables h_p0_m_words h_p0_m_blank h_p0_m_queue h_p0_d h_p0_d_maps h_p0_d_tables h_p0_d_words h_p0_d_blank h_p0_d_queue h_p0_young h_p0_dropped h_p0_leaving m_maps m_tables m_words m_blank m_queue d_maps d_tables d_words d_blank d_queue young dropped leaving ren) := by
  obtain ⟨cf, hr, hlk, hK, hN, hA⟩ := cx
  have hx := cf.1
  have hb := cf.2.1
  have hown := cf.2.2.2.1
  have ht : ∀ w ∈ wA, w.before args s = true := fun w h => cf.2.2.2.2 w (List.mem_cons_of_mem _ h)
  intro x6 t1 m_maps m_tables m_words m_queue d_maps d_tables d_words d_blank d_queue young dropped leaving ren h H locs ls hl hP hD hS
  unfold s_V_rename_207 at h
  obtain ⟨hz, h⟩ := gz_some h
  refine va_put (D := D) (ci := 1) (v := .int t1) (ty := .boolean) (C := R_V) (T := F_V) (N := 6) hx hb ht in_V t_V t_V_ok n_V hown hK hP hD hS 0 rfl rfl 5 (by decide) (ht _ f_V_29) (fun _ h9 => h9) rfl (by decide +kernel) (nz_b hz) (fz_b hz) (Nat.le_of_ble_eq_true rfl) d_V_rename_207 (fun H locs hP hD hS => ?_)
  have hP : va_P D clA (w_V cI cZ h_p0 h_p0_m h_p0_m_maps h_p0_m_tables h_p0_m_words h_p0_m_blank h_p0_m_queue h_p0_d h_p0_d_maps h_p0_d_tables h_p0_d_words h_p0_d_blank h_p0_d_queue h_p0_young h_p0_dropped h_p0_leaving m_maps m_tables m_words m_blank m_queue d_maps d_tables d_words d_blank d_queue young dropped leaving t1) H := hP
  have hD : va_D A (w_V cI cZ h_p0 h_p0_m h_p0_m_maps h_p0_m_tables h_p0_m_words h_p0_m_blank h_p0_m_queue h_p0_d h_p0_d_maps h_p0_d_tables h_p0_d_words h_p0_d_blank h_p0_d_queue h_p0_young h_p0_dropped h_p0_leaving m_maps m_tables m_words m_blank m_queue d_maps d_tables d_words d_blank d_queue young dropped leaving t1) := hD
  refine lv_iload hx hb d_V_rename_210 (lv_at hl 1 rfl) ?_
  cases h
  exact sc_iret cf hr hlk hK hP hD hS d_V_rename_212
set_option maxHeartbeats 4000000 in
set_option maxRecDepth 100000 in
theorem w_V_rename_202 {p : Program} {l : Launch} {e : Env} {s : State} {m : MethodId} {args : Array Value} {below : List Frame} {meth : Method} {c : Code} {D : va_G} {cI cZ : ClassId} {A : Nat → Prop} (h_p0 h_p0_m h_p0_m_maps h_p0_m_tables h_p0_m_words h_p0_m_blank h_p0_m_queue h_p0_d h_p0_d_maps h_p0_d_tables h_p0_d_words h_p0_d_blank h_p0_d_queue h_p0_young h_p0_dropped h_p0_leaving : Nat) (F : Nat) (m_blank : (Nat → Int32)) (m_maps' : (Nat → Int32)) (m_tables' : (Nat → Int32)) (m_words' : (Nat → Int32)) (m_queue' : (Nat → Int32)) (d_maps' : (Nat → Int32)) (d_tables' : (Nat → Int32)) (d_words' : (Nat → Int32)) (d_blank' : (Nat → Int32)) (d_queue' : (Nat → Int32)) (young' : (Nat → Int32)) (dropped' : (Nat → Int32)) (leaving' : (Nat → Int32)) (ren' : Int32) (r : Int32) (cx : cx_ok p s m args meth c b_V_rename 9 o_V_rename "OrderedVolume" (some .int) D cI cZ A) : ∀ (x6 : Int32) (m_maps : (Nat → Int32)) (m_tables : (Nat → Int32)) (m_words : (Nat → Int32)) (m_queue : (Nat → Int32)) (d_maps : (Nat → Int32)) (d_tables : (Nat → Int32)) (d_words : (Nat → Int32)) (d_blank : (Nat → Int32)) (d_queue : (Nat → Int32)) (young : (Nat → Int32)) (dropped : (Nat → Int32)) (leaving : (Nat → Int32)) (ren : Int32), s_V_rename_202 F m_blank x6 m_maps m_tables m_words m_queue d_maps d_tables d_words d_blank d_queue young dropped leaving ren = some (r, m_maps', m_tables', m_words', m_queue', d_maps', d_tables', d_words', d_blank', d_queue', young', dropped', leaving', ren') → wk_G p l e rm_V_rename s m args below meth c (sc_Qi below args s D cI cZ A (w_V cI cZ h_p0 h_p0_m h_p0_m_maps h_p0_m_tables h_p0_m_words h_p0_m_blank h_p0_m_queue h_p0_d h_p0_d_maps h_p0_d_tables h_p0_d_words h_p0_d_blank h_p0_d_queue h_p0_young h_p0_dropped h_p0_leaving (m_maps') (m_tables') (m_words') m_blank (m_queue') (d_maps') (d_tables') (d_words') (d_blank') (d_queue') (young') (dropped') (leaving') (ren')) r) D A 9 202 [.ref h_p0] [(0, .ref h_p0), (6, .int x6)] (w_V cI cZ h_p0 h_p0_m h_p0_m_maps h_p0_m_tables h_p0_m_words h_p0_m_blank h_p0_m_queue h_p0_d h_p0_d_maps h_p0_d_tables h_p0_d_words h_p0_d_blank h_p0_d_queue h_p0_young h_p0_dropped h_p0_leaving m_maps m_tables m_words m_blank m_queue d_maps d_tables d_words d_blank d_queue young dropped leaving ren) := by
  obtain ⟨cf, hr, hlk, hK, hN, hA⟩ := cx
  have hx := cf.1
  have hb := cf.2.1
  have hown := cf.2.2.2.1
  have ht : ∀ w ∈ wA, w.before args s = true := fun w h => cf.2.2.2.2 w (List.mem_cons_of_mem _ h)
  intro x6 m_maps m_tables m_words m_queue d_maps d_tables d_words d_blank d_queue young dropped leaving ren h H locs ls hl hP hD hS
  unfold s_V_rename_202 at h
  refine lv_iconst (v := (nI 1)) hx hb d_V_rename_202 (by decide) ?_
  refine lv_goto hx hb d_V_rename_203 rfl ?_
  exact w_V_rename_207 h_p0 h_p0_m h_p0_m_maps h_p0_m_tables h_p0_m_words h_p0_m_blank h_p0_m_queue h_p0_d h_p0_d_maps h_p0_d_tables h_p0_d_words h_p0_d_blank h_p0_d_queue h_p0_young h_p0_dropped h_p0_leaving F m_blank m_maps' m_tables' m_words' m_queue' d_maps' d_tables' d_words' d_blank' d_queue' young' dropped' leaving' ren' r ⟨cf, hr, hlk, hK, hN, hA⟩ x6 (nI 1) m_maps m_tables m_words m_queue d_maps d_tables d_words d_blank d_queue young dropped leaving ren h H locs ls (lv_sub hl [0, 1] rfl) hP hD hS
set_option maxHeartbeats 4000000 in
set_option maxRecDepth 100000 in
theorem w_V_rename_151 {p : Program} {l : Launch} {e : Env} {s : State} {m : MethodId} {args : Array Value} {below : List Frame} {meth : Method} {c : Code} {D : va_G} {cI cZ : ClassId} {A : Nat → Prop} (h_p0 h_p0_m h_p0_m_maps h_p0_m_tables h_p0_m_words h_p0_m_blank h_p0_m_queue h_p0_d h_p0_d_maps h_p0_d_tables h_p0_d_words h_p0_d_blank h_p0_d_queue h_p0_young h_p0_dropped h_p0_leaving : Nat) (F : Nat) (m_blank : (Nat → Int32)) (m_maps' : (Nat → Int32)) (m_tables' : (Nat → Int32)) (m_words' : (Nat → Int32)) (m_queue' : (Nat → Int32)) (d_maps' : (Nat → Int32)) (d_tables' : (Nat → Int32)) (d_words' : (Nat → Int32)) (d_blank' : (Nat → Int32)) (d_queue' : (Nat → Int32)) (young' : (Nat → Int32)) (dropped' : (Nat → Int32)) (leaving' : (Nat → Int32)) (ren' : Int32) (r : Int32) (cx : cx_ok p s m args meth c b_V_rename 9 o_V_rename "OrderedVolume" (some .int) D cI cZ A) : ∀ (x1 : Int32) (x3 : Int32) (x4 : Int32) (x5 : Int32) (x6 : Int32) (x7 : Int32) (m_maps : (Nat → Int32)) (m_tables : (Nat → Int32)) (m_words : (Nat → Int32)) (m_queue : (Nat → Int32)) (d_maps : (Nat → Int32)) (d_tables : (Nat → Int32)) (d_words : (Nat → Int32)) (d_blank : (Nat → Int32)) (d_queue : (Nat → Int32)) (young : (Nat → Int32)) (dropped : (Nat → Int32)) (leaving : (Nat → Int32)) (ren : Int32), s_V_rename_151 F m_blank x1 x3 x4 x5 x6 x7 m_maps m_tables m_words m_queue d_maps d_tables d_words d_blank d_queue young dropped leaving ren = some (r, m_maps', m_tables', m_words', m_queue', d_maps', d_tables', d_words', d_blank', d_queue', young', dropped', leaving', ren') → wk_G p l e rm_V_rename s m args below meth c (sc_Qi below args s D cI cZ A (w_V cI cZ h_p0 h_p0_m h_p0_m_maps h_p0_m_tables h_p0_m_words h_p0_m_blank h_p0_m_queue h_p0_d h_p0_d_maps h_p0_d_tables h_p0_d_words h_p0_d_blank h_p0_d_queue h_p0_young h_p0_dropped h_p0_leaving (m_maps') (m_tables') (m_words') m_blank (m_queue') (d_maps') (d_tables') (d_words') (d_blank') (d_queue') (young') (dropped') (leaving') (ren')) r) D A 9 151 [] [(0, .ref h_p0), (1, .int x1), (3, .int x3), (4, .int x4), (5, .int x5), (6, .int x6), (7, .int x7)] (w_V cI cZ h_p0 h_p0_m h_p0_m_maps h_p0_m_tables h_p0_m_words h_p0_m_blank h_p0_m_queue h_p0_d h_p0_d_maps h_p0_d_tables h_p0_d_words h_p0_d_blank h_p0_d_queue h_p0_young h_p0_dropped h_p0_leaving m_maps m_tables m_words m_blank m_queue d_maps d_tables d_words d_blank d_queue young dropped leaving ren) := by
  obtain ⟨cf, hr, hlk, hK, hN, hA⟩ := cx
  have hx := cf.1
  have hb := cf.2.1
  have hown := cf.2.2.2.1
  have ht : ∀ w ∈ wA, w.before args s = true := fun w h => cf.2.2.2.2 w (List.mem_cons_of_mem _ h)
  intro x1 x3 x4 x5 x6 x7 m_maps m_tables m_words m_queue d_maps d_tables d_words d_blank d_queue young dropped leaving ren h H locs ls hl hP hD hS
  unfold s_V_rename_151 at h
  refine lv_aload_n hx hb d_V_rename_151 rfl (lv_at hl 0 rfl) ?_
  refine lv_iload_n hx hb d_V_rename_152 rfl (lv_at hl 2 rfl) ?_
  obtain ⟨r153, h153, h⟩ := bd_some h
  refine wk_Vi (As := [.int x3]) (rest := []) (wc := (w_V cI cZ h_p0 h_p0_m h_p0_m_maps h_p0_m_tables h_p0_m_words h_p0_m_blank h_p0_m_queue h_p0_d h_p0_d_maps h_p0_d_tables h_p0_d_words h_p0_d_blank h_p0_d_queue h_p0_young h_p0_dropped h_p0_leaving m_maps m_tables m_words m_blank m_queue d_maps d_tables d_words d_blank d_queue young dropped leaving ren)) (w1 := (w_V cI cZ h_p0 h_p0_m h_p0_m_maps h_p0_m_tables h_p0_m_words h_p0_m_blank h_p0_m_queue h_p0_d h_p0_d_maps h_p0_d_tables h_p0_d_words h_p0_d_blank h_p0_d_queue h_p0_young h_p0_dropped h_p0_leaving m_maps m_tables m_words m_blank m_queue d_maps d_tables d_words d_blank d_queue young dropped leaving ren)) (wr := []) (wz := (w_V cI cZ h_p0 h_p0_m h_p0_m_maps h_p0_m_tables h_p0_m_words h_p0_m_blank h_p0_m_queue h_p0_d h_p0_d_maps h_p0_d_tables h_p0_d_words h_p0_d_blank h_p0_d_queue h_p0_young h_p0_dropped h_p0_leaving m_maps m_tables m_words m_blank m_queue d_maps d_tables d_words d_blank d_queue young dropped leaving ren)) cf hK hN hA (c_V_placeIn l D cI cZ h_p0 h_p0_m h_p0_m_maps h_p0_m_tables h_p0_m_words h_p0_m_blank h_p0_m_queue h_p0_d h_p0_d_maps h_p0_d_tables h_p0_d_words h_p0_d_blank h_p0_d_queue h_p0_young h_p0_dropped h_p0_leaving F m_maps m_tables m_words m_blank m_queue d_maps d_tables d_words d_blank d_queue young dropped leaving ren x3 r153 h153) k_V_77 ⟨rfl, rfl, by decide, by decide⟩ 1 rfl rfl rfl hl hP hD hS [0, 1, 2, 3, 4, 5, 6, 7, 8, 9, 10, 11, 12, 13, 14, 15] [] [0, 1, 2, 3, 4, 5, 6, 7, 8, 9, 10, 11, 12, 13, 14, 15] rfl rfl rfl (by decide) rfl rfl rfl rfl rfl (Nat.le_of_ble_eq_true rfl) rfl d_V_rename_153 (fun H locs hP hD hS => ?_)
  refine lv_istore (lv' := [(8, .int r153), (0, .ref h_p0), (1, .int x1), (3, .int x3), (4, .int x4), (5, .int x5), (6, .int x6), (7, .int x7)]) hx hb d_V_rename_156 hl (by decide) rfl (fun ls hl => ?_)
  refine lv_iload hx hb d_V_rename_158 (lv_at hl 0 rfl) ?_
  refine lv_iconst (v := (-1)) hx hb d_V_rename_160 (by decide) ?_
  refine lv_icmp_ne hx hb d_V_rename_161 rfl (fun hc => ?_) (fun hc => ?_)
  · rw [if_neg hc] at h
    refine lv_aload_n hx hb d_V_rename_167 rfl (lv_at hl 1 rfl) ?_
    refine lv_iload_n hx hb d_V_rename_168 rfl (lv_at hl 3 rfl) ?_
    refine lv_iload hx hb d_V_rename_169 (lv_at hl 0 rfl) ?_
    refine lv_bipush (v := (nI 32)) hx hb d_V_rename_171 (by decide) ?_
    refine lv_iload hx hb d_V_rename_173 (lv_at hl 4 rfl) ?_
    refine lv_imul hx hb d_V_rename_175 ?_
    refine lv_iload hx hb d_V_rename_176 (lv_at hl 6 rfl) ?_
    refine lv_iadd hx hb d_V_rename_178 ?_
    obtain ⟨⟨m_tables_179, m_words_179, young_179⟩, h179, h⟩ := bd_some h
    dsimp only at h
    refine wk_Vv (As := [.int x3, .int r153, .int (((nI 32) * x4) + x6)]) (rest := []) (wc := (w_V cI cZ h_p0 h_p0_m h_p0_m_maps h_p0_m_tables h_p0_m_words h_p0_m_blank h_p0_m_queue h_p0_d h_p0_d_maps h_p0_d_tables h_p0_d_words h_p0_d_blank h_p0_d_queue h_p0_young h_p0_dropped h_p0_leaving m_maps m_tables m_words m_blank m_queue d_maps d_tables d_words d_blank d_queue young dropped leaving ren)) (w1 := (w_V cI cZ h_p0 h_p0_m h_p0_m_maps h_p0_m_tables h_p0_m_words h_p0_m_blank h_p0_m_queue h_p0_d h_p0_d_maps h_p0_d_tables h_p0_d_words h_p0_d_blank h_p0_d_queue h_p0_young h_p0_dropped h_p0_leaving m_maps m_tables_179 m_words_179 m_blank m_queue d_maps d_tables d_words d_blank d_queue young_179 dropped leaving ren)) (wr := []) (wz := (w_V cI cZ h_p0 h_p0_m h_p0_m_maps h_p0_m_tables h_p0_m_words h_p0_m_blank h_p0_m_queue h_p0_d h_p0_d_maps h_p0_d_tables h_p0_d_words h_p0_d_blank h_p0_d_queue h_p0_young h_p0_dropped h_p0_leaving m_maps m_tables_179 m_words_179 m_blank m_queue d_maps d_tables d_words d_blank d_queue young_179 dropped leaving ren)) cf hK hN hA (c_V_makeEntry l D cI cZ h_p0 h_p0_m h_p0_m_maps h_p0_m_tables h_p0_m_words h_p0_m_blank h_p0_m_queue h_p0_d h_p0_d_maps h_p0_d_tables h_p0_d_words h_p0_d_blank h_p0_d_queue h_p0_young h_p0_dropped h_p0_leaving m_maps m_tables m_words m_blank m_queue d_maps d_tables d_words d_blank d_queue young dropped leaving ren m_tables_179 m_words_179 young_179 x3 r153 (((nI 32) * x4) + x6) h179) k_V_80 ⟨rfl, rfl, by decide, by decide⟩ 1 rfl rfl rfl hl hP hD hS [0, 1, 2, 3, 4, 5, 6, 7, 8, 9, 10, 11, 12, 13, 14, 15] [] [0, 1, 2, 3, 4, 5, 6, 7, 8, 9, 10, 11, 12, 13, 14, 15] rfl rfl rfl (by decide) rfl rfl rfl rfl rfl (Nat.le_of_ble_eq_true rfl) rfl d_V_rename_179 (fun H locs hP hD hS => ?_)
    refine lv_aload_n hx hb d_V_rename_182 rfl (lv_at hl 1 rfl) ?_
    refine lv_iload_n hx hb d_V_rename_183 rfl (lv_at hl 2 rfl) ?_
    refine lv_iload hx hb d_V_rename_184 (lv_at hl 5 rfl) ?_
    obtain ⟨⟨m_maps_186, m_tables_186, m_words_186, young_186, dropped_186, leaving_186⟩, h186, h⟩ := bd_some h
    dsimp only at h
    refine wk_Vv (As := [.int x1, .int x5]) (rest := []) (wc := (w_V cI cZ h_p0 h_p0_m h_p0_m_maps h_p0_m_tables h_p0_m_words h_p0_m_blank h_p0_m_queue h_p0_d h_p0_d_maps h_p0_d_tables h_p0_d_words h_p0_d_blank h_p0_d_queue h_p0_young h_p0_dropped h_p0_leaving m_maps m_tables_179 m_words_179 m_blank m_queue d_maps d_tables d_words d_blank d_queue young_179 dropped leaving ren)) (w1 := (w_V cI cZ h_p0 h_p0_m h_p0_m_maps h_p0_m_tables h_p0_m_words h_p0_m_blank h_p0_m_queue h_p0_d h_p0_d_maps h_p0_d_tables h_p0_d_words h_p0_d_blank h_p0_d_queue h_p0_young h_p0_dropped h_p0_leaving m_maps_186 m_tables_186 m_words_186 m_blank m_queue d_maps d_tables d_words d_blank d_queue young_186 dropped_186 leaving_186 ren)) (wr := []) (wz := (w_V cI cZ h_p0 h_p0_m h_p0_m_maps h_p0_m_tables h_p0_m_words h_p0_m_blank h_p0_m_queue h_p0_d h_p0_d_maps h_p0_d_tables h_p0_d_words h_p0_d_blank h_p0_d_queue h_p0_young h_p0_dropped h_p0_leaving m_maps_186 m_tables_186 m_words_186 m_blank m_queue d_maps d_tables d_words d_blank d_queue young_186 dropped_186 leaving_186 ren)) cf hK hN hA (c_V_takeEntryAway l D cI cZ h_p0 h_p0_m h_p0_m_maps h_p0_m_tables h_p0_m_words h_p0_m_blank h_p0_m_queue h_p0_d h_p0_d_maps h_p0_d_tables h_p0_d_words h_p0_d_blank h_p0_d_queue h_p0_young h_p0_dropped h_p0_leaving F m_maps m_tables_179 m_words_179 m_blank m_queue d_maps d_tables d_words d_blank d_queue young_179 dropped leaving ren m_maps_186 m_tables_186 m_words_186 young_186 dropped_186 leaving_186 x1 x5 h186) k_V_98 ⟨rfl, rfl, by decide, by decide⟩ 1 rfl rfl rfl hl hP hD hS [0, 1, 2, 3, 4, 5, 6, 7, 8, 9, 10, 11, 12, 13, 14, 15] [] [0, 1, 2, 3, 4, 5, 6, 7, 8, 9, 10, 11, 12, 13, 14, 15] rfl rfl rfl (by decide) rfl rfl rfl rfl rfl (Nat.le_of_ble_eq_true rfl) rfl d_V_rename_186 (fun H locs hP hD hS => ?_)
    refine lv_aload_n hx hb d_V_rename_189 rfl (lv_at hl 1 rfl) ?_
    refine lv_aload_n hx hb d_V_rename_190 rfl (lv_at hl 1 rfl) ?_
    refine va_get (D := D) (ci := 1) (v := .int ren) (C := R_V) (T := F_V) (N := 6) hx hb ht in_V hown hK hP 0 rfl rfl 5 (by decide) (ht _ f_V_29) (fun _ h9 => h9) rfl d_V_rename_191 ?_
    refine lv_if_ne hx hb d_V_rename_194 rfl (fun hc => ?_) (fun hc => ?_)
    · rw [if_neg hc] at h
      exact w_V_rename_202 h_p0 h_p0_m h_p0_m_maps h_p0_m_tables h_p0_m_words h_p0_m_blank h_p0_m_queue h_p0_d h_p0_d_maps h_p0_d_tables h_p0_d_words h_p0_d_blank h_p0_d_queue h_p0_young h_p0_dropped h_p0_leaving F m_blank m_maps' m_tables' m_words' m_queue' d_maps' d_tables' d_words' d_blank' d_queue' young' dropped' leaving' ren' r ⟨cf, hr, hlk, hK, hN, hA⟩ x6 m_maps_186 m_tables_186 m_words_186 m_queue d_maps d_tables d_words d_blank d_queue young_186 dropped_186 leaving_186 ren h H locs ls (lv_sub hl [1, 6] rfl) hP hD hS
    · rw [if_pos hc] at h
      refine lv_iload hx hb d_V_rename_197 (lv_at hl 7 rfl) ?_
      refine lv_if_eq hx hb d_V_rename_199 rfl (fun hc => ?_) (fun hc => ?_)
      · rw [if_pos hc] at h
        refine lv_iconst (v := (nI 0)) hx hb d_V_rename_206 (by decide) ?_
        exact w_V_rename_207 h_p0 h_p0_m h_p0_m_maps h_p0_m_tables h_p0_m_words h_p0_m_blank h_p0_m_queue h_p0_d h_p0_d_maps h_p0_d_tables h_p0_d_words h_p0_d_blank h_p0_d_queue h_p0_young h_p0_dropped h_p0_leaving F m_blank m_maps' m_tables' m_words' m_queue' d_maps' d_tables' d_words' d_blank' d_queue' young' dropped' leaving' ren' r ⟨cf, hr, hlk, hK, hN, hA⟩ x6 (nI 0) m_maps_186 m_tables_186 m_words_186 m_queue d_maps d_tables d_words d_blank d_queue young_186 dropped_186 leaving_186 ren h H locs ls (lv_sub hl [1, 6] rfl) hP hD hS
      · rw [if_neg hc] at h
        exact w_V_rename_202 h_p0 h_p0_m h_p0_m_maps h_p0_m_tables h_p0_m_words h_p0_m_blank h_p0_m_queue h_p0_d h_p0_d_maps h_p0_d_tables h_p0_d_words h_p0_d_blank h_p0_d_queue h_p0_young h_p0_dropped h_p0_leaving F m_blank m_maps' m_tables' m_words' m_queue' d_maps' d_tables' d_words' d_blank' d_queue' young' dropped' leaving' ren' r ⟨cf, hr, hlk, hK, hN, hA⟩ x6 m_maps_186 m_tables_186 m_words_186 m_queue d_maps d_tables d_words d_blank d_queue young_186 dropped_186 leaving_186 ren h H locs ls (lv_sub hl [1, 6] rfl) hP hD hS
  · rw [if_pos hc] at h
    refine lv_bipush (v := (-3)) hx hb d_V_rename_164 (by decide) ?_
    cases h
    exact sc_iret cf hr hlk hK hP hD hS d_V_rename_166
set_option maxHeartbeats 4000000 in
set_option maxRecDepth 100000 in
theorem w_V_rename_121 {p : Program} {l : Launch} {e : Env} {s : State} {m : MethodId} {args : Array Value} {below : List Frame} {meth : Method} {c : Code} {D : va_G} {cI cZ : ClassId} {A : Nat → Prop} (h_p0 h_p0_m h_p0_m_maps h_p0_m_tables h_p0_m_words h_p0_m_blank h_p0_m_queue h_p0_d h_p0_d_maps h_p0_d_tables h_p0_d_words h_p0_d_blank h_p0_d_queue h_p0_young h_p0_dropped h_p0_leaving : Nat) (F : Nat) (m_blank : (Nat → Int32)) (m_maps' : (Nat → Int32)) (m_tables' : (Nat → Int32)) (m_words' : (Nat → Int32)) (m_queue' : (Nat → Int32)) (d_maps' : (Nat → Int32)) (d_tables' : (Nat → Int32)) (d_words' : (Nat → Int32)) (d_blank' : (Nat → Int32)) (d_queue' : (Nat → Int32)) (young' : (Nat → Int32)) (dropped' : (Nat → Int32)) (leaving' : (Nat → Int32)) (ren' : Int32) (r : Int32) (cx : cx_ok p s m args meth c b_V_rename 9 o_V_rename "OrderedVolume" (some .int) D cI cZ A) : ∀ (x1 : Int32) (x3 : Int32) (x4 : Int32) (x5 : Int32) (x6 : Int32) (x7 : Int32) (m_maps : (Nat → Int32)) (m_tables : (Nat → Int32)) (m_words : (Nat → Int32)) (m_queue : (Nat → Int32)) (d_maps : (Nat → Int32)) (d_tables : (Nat → Int32)) (d_words : (Nat → Int32)) (d_blank : (Nat → Int32)) (d_queue : (Nat → Int32)) (young : (Nat → Int32)) (dropped : (Nat → Int32)) (leaving : (Nat → Int32)) (ren : Int32), s_V_rename_121 F m_blank x1 x3 x4 x5 x6 x7 m_maps m_tables m_words m_queue d_maps d_tables d_words d_blank d_queue young dropped leaving ren = some (r, m_maps', m_tables', m_words', m_queue', d_maps', d_tables', d_words', d_blank', d_queue', young', dropped', leaving', ren') → wk_G p l e rm_V_rename s m args below meth c (sc_Qi below args s D cI cZ A (w_V cI cZ h_p0 h_p0_m h_p0_m_maps h_p0_m_tables h_p0_m_words h_p0_m_blank h_p0_m_queue h_p0_d h_p0_d_maps h_p0_d_tables h_p0_d_words h_p0_d_blank h_p0_d_queue h_p0_young h_p0_dropped h_p0_leaving (m_maps') (m_tables') (m_words') m_blank (m_queue') (d_maps') (d_tables') (d_words') (d_blank') (d_queue') (young') (dropped') (leaving') (ren')) r) D A 9 121 [] [(0, .ref h_p0), (1, .int x1), (3, .int x3), (4, .int x4), (5, .int x5), (6, .int x6), (7, .int x7)] (w_V cI cZ h_p0 h_p0_m h_p0_m_maps h_p0_m_tables h_p0_m_words h_p0_m_blank h_p0_m_queue h_p0_d h_p0_d_maps h_p0_d_tables h_p0_d_words h_p0_d_blank h_p0_d_queue h_p0_young h_p0_dropped h_p0_leaving m_maps m_tables m_words m_blank m_queue d_maps d_tables d_words d_blank d_queue young dropped leaving ren) := by
  obtain ⟨cf, hr, hlk, hK, hN, hA⟩ := cx
  have hx := cf.1
  have hb := cf.2.1
  have hown := cf.2.2.2.1
  have ht : ∀ w ∈ wA, w.before args s = true := fun w h => cf.2.2.2.2 w (List.mem_cons_of_mem _ h)
  intro x1 x3 x4 x5 x6 x7 m_maps m_tables m_words m_queue d_maps d_tables d_words d_blank d_queue young dropped leaving ren h H locs ls hl hP hD hS
  unfold s_V_rename_121 at h
  refine lv_aload_n hx hb d_V_rename_121 rfl (lv_at hl 0 rfl) ?_
  refine va_get (D := D) (ci := 1) (v := .ref h_p0_m) (C := R_V) (T := F_V) (N := 6) hx hb ht in_V hown hK hP 0 rfl rfl 0 (by decide) (ht _ f_V_10) (fun _ h9 => h9) rfl d_V_rename_122 ?_
  refine lv_iload_n hx hb d_V_rename_125 rfl (lv_at hl 2 rfl) ?_
  obtain ⟨r126, h126, h⟩ := bd_some h
  refine wk_Vi (As := [.int x3]) (rest := []) (wc := (w_S cI cZ h_p0_m h_p0_m_maps h_p0_m_tables h_p0_m_words h_p0_m_blank h_p0_m_queue m_maps m_tables m_words m_blank m_queue)) (w1 := (w_S cI cZ h_p0_m h_p0_m_maps h_p0_m_tables h_p0_m_words h_p0_m_blank h_p0_m_queue m_maps m_tables m_words m_blank m_queue)) (wr := [(h_p0, .inr (1, [.ref h_p0_m, .ref h_p0_d, .ref h_p0_young, .ref h_p0_dropped, .ref h_p0_leaving, .int ren])), (h_p0_d, .inr (0, [.ref h_p0_d_maps, .ref h_p0_d_tables, .ref h_p0_d_words, .ref h_p0_d_blank, .ref h_p0_d_queue])), (h_p0_d_maps, .inl (cI, 48, .inl d_maps)), (h_p0_d_tables, .inl (cI, 90, .inl d_tables)), (h_p0_d_words, .inl (cI, 288, .inl d_words)), (h_p0_d_blank, .inl (cZ, 36, .inl d_blank)), (h_p0_d_queue, .inl (cI, 18, .inl d_queue)), (h_p0_young, .inl (cI, 36, .inl young)), (h_p0_dropped, .inl (cI, 36, .inl dropped)), (h_p0_leaving, .inl (cI, 18, .inl leaving))]) (wz := (w_V cI cZ h_p0 h_p0_m h_p0_m_maps h_p0_m_tables h_p0_m_words h_p0_m_blank h_p0_m_queue h_p0_d h_p0_d_maps h_p0_d_tables h_p0_d_words h_p0_d_blank h_p0_d_queue h_p0_young h_p0_dropped h_p0_leaving m_maps m_tables m_words m_blank m_queue d_maps d_tables d_words d_blank d_queue young dropped leaving ren)) cf hK hN hA (c_S_entryCount l D cI cZ h_p0_m h_p0_m_maps h_p0_m_tables h_p0_m_words h_p0_m_blank h_p0_m_queue F m_maps m_tables m_words m_blank m_queue x3 r126 h126) k_V_95 ⟨rfl, rfl, by decide, by decide⟩ 0 rfl rfl rfl hl hP hD hS [1, 2, 3, 4, 5, 6] [0, 7, 8, 9, 10, 11, 12, 13, 14, 15] [0, 10, 11, 12, 13, 14, 15, 1, 2, 3, 4, 5, 6, 7, 8, 9] rfl rfl rfl (by decide) rfl rfl rfl rfl rfl (Nat.le_of_ble_eq_true rfl) rfl d_V_rename_126 (fun H locs hP hD hS => ?_)
  refine lv_bipush (v := (nI 8)) hx hb d_V_rename_129 (by decide) ?_
  refine lv_icmp_ne hx hb d_V_rename_131 rfl (fun hc => ?_) (fun hc => ?_)
  · rw [if_neg hc] at h
    refine lv_aload_n hx hb d_V_rename_137 rfl (lv_at hl 0 rfl) ?_
    refine lv_iload_n hx hb d_V_rename_138 rfl (lv_at hl 2 rfl) ?_
    obtain ⟨r139, h139, h⟩ := bd_some h
    refine wk_Vi (As := [.int x3]) (rest := []) (wc := (w_V cI cZ h_p0 h_p0_m h_p0_m_maps h_p0_m_tables h_p0_m_words h_p0_m_blank h_p0_m_queue h_p0_d h_p0_d_maps h_p0_d_tables h_p0_d_words h_p0_d_blank h_p0_d_queue h_p0_young h_p0_dropped h_p0_leaving m_maps m_tables m_words m_blank m_queue d_maps d_tables d_words d_blank d_queue young dropped leaving ren)) (w1 := (w_V cI cZ h_p0 h_p0_m h_p0_m_maps h_p0_m_tables h_p0_m_words h_p0_m_blank h_p0_m_queue h_p0_d h_p0_d_maps h_p0_d_tables h_p0_d_words h_p0_d_blank h_p0_d_queue h_p0_young h_p0_dropped h_p0_leaving m_maps m_tables m_words m_blank m_queue d_maps d_tables d_words d_blank d_queue young dropped leaving ren)) (wr := []) (wz := (w_V cI cZ h_p0 h_p0_m h_p0_m_maps h_p0_m_tables h_p0_m_words h_p0_m_blank h_p0_m_queue h_p0_d h_p0_d_maps h_p0_d_tables h_p0_d_words h_p0_d_blank h_p0_d_queue h_p0_young h_p0_dropped h_p0_leaving m_maps m_tables m_words m_blank m_queue d_maps d_tables d_words d_blank d_queue young dropped leaving ren)) cf hK hN hA (c_V_placeIn l D cI cZ h_p0 h_p0_m h_p0_m_maps h_p0_m_tables h_p0_m_words h_p0_m_blank h_p0_m_queue h_p0_d h_p0_d_maps h_p0_d_tables h_p0_d_words h_p0_d_blank h_p0_d_queue h_p0_young h_p0_dropped h_p0_leaving F m_maps m_tables m_words m_blank m_queue d_maps d_tables d_words d_blank d_queue young dropped leaving ren x3 r139 h139) k_V_77 ⟨rfl, rfl, by decide, by decide⟩ 1 rfl rfl rfl hl hP hD hS [0, 1, 2, 3, 4, 5, 6, 7, 8, 9, 10, 11, 12, 13, 14, 15] [] [0, 1, 2, 3, 4, 5, 6, 7, 8, 9, 10, 11, 12, 13, 14, 15] rfl rfl rfl (by decide) rfl rfl rfl rfl rfl (Nat.le_of_ble_eq_true rfl) rfl d_V_rename_139 (fun H locs hP hD hS => ?_)
    refine lv_iconst (v := (-1)) hx hb d_V_rename_142 (by decide) ?_
    refine lv_icmp_ne hx hb d_V_rename_143 rfl (fun hc => ?_) (fun hc => ?_)
    · rw [if_neg hc] at h
      exact w_V_rename_151 h_p0 h_p0_m h_p0_m_maps h_p0_m_tables h_p0_m_words h_p0_m_blank h_p0_m_queue h_p0_d h_p0_d_maps h_p0_d_tables h_p0_d_words h_p0_d_blank h_p0_d_queue h_p0_young h_p0_dropped h_p0_leaving F m_blank m_maps' m_tables' m_words' m_queue' d_maps' d_tables' d_words' d_blank' d_queue' young' dropped' leaving' ren' r ⟨cf, hr, hlk, hK, hN, hA⟩ x1 x3 x4 x5 x6 x7 m_maps m_tables m_words m_queue d_maps d_tables d_words d_blank d_queue young dropped leaving ren h H locs ls (lv_sub hl [0, 1, 2, 3, 4, 5, 6] rfl) hP hD hS
    · rw [if_pos hc] at h
      refine lv_aload_n hx hb d_V_rename_146 rfl (lv_at hl 0 rfl) ?_
      obtain ⟨⟨r147, m_maps_147, m_tables_147, m_queue_147, d_maps_147, d_tables_147, d_words_147, d_blank_147, d_queue_147, young_147, dropped_147, leaving_147, ren_147⟩, h147, h⟩ := bd_some h
      dsimp only at h
      refine wk_Vi (As := []) (rest := []) (wc := (w_V cI cZ h_p0 h_p0_m h_p0_m_maps h_p0_m_tables h_p0_m_words h_p0_m_blank h_p0_m_queue h_p0_d h_p0_d_maps h_p0_d_tables h_p0_d_words h_p0_d_blank h_p0_d_queue h_p0_young h_p0_dropped h_p0_leaving m_maps m_tables m_words m_blank m_queue d_maps d_tables d_words d_blank d_queue young dropped leaving ren)) (w1 := (w_V cI cZ h_p0 h_p0_m h_p0_m_maps h_p0_m_tables h_p0_m_words h_p0_m_blank h_p0_m_queue h_p0_d h_p0_d_maps h_p0_d_tables h_p0_d_words h_p0_d_blank h_p0_d_queue h_p0_young h_p0_dropped h_p0_leaving m_maps_147 m_tables_147 m_words m_blank m_queue_147 d_maps_147 d_tables_147 d_words_147 d_blank_147 d_queue_147 young_147 dropped_147 leaving_147 ren_147)) (wr := []) (wz := (w_V cI cZ h_p0 h_p0_m h_p0_m_maps h_p0_m_tables h_p0_m_words h_p0_m_blank h_p0_m_queue h_p0_d h_p0_d_maps h_p0_d_tables h_p0_d_words h_p0_d_blank h_p0_d_queue h_p0_young h_p0_dropped h_p0_leaving m_maps_147 m_tables_147 m_words m_blank m_queue_147 d_maps_147 d_tables_147 d_words_147 d_blank_147 d_queue_147 young_147 dropped_147 leaving_147 ren_147)) cf hK hN hA (c_V_makeAlike l D cI cZ h_p0 h_p0_m h_p0_m_maps h_p0_m_tables h_p0_m_words h_p0_m_blank h_p0_m_queue h_p0_d h_p0_d_maps h_p0_d_tables h_p0_d_words h_p0_d_blank h_p0_d_queue h_p0_young h_p0_dropped h_p0_leaving F m_maps m_tables m_words m_blank m_queue d_maps d_tables d_words d_blank d_queue young dropped leaving ren m_maps_147 m_tables_147 m_queue_147 d_maps_147 d_tables_147 d_words_147 d_blank_147 d_queue_147 young_147 dropped_147 leaving_147 ren_147 r147 h147) k_V_48 ⟨rfl, rfl, by decide, by decide⟩ 1 rfl rfl rfl hl hP hD hS [0, 1, 2, 3, 4, 5, 6, 7, 8, 9, 10, 11, 12, 13, 14, 15] [] [0, 1, 2, 3, 4, 5, 6, 7, 8, 9, 10, 11, 12, 13, 14, 15] rfl rfl rfl (by decide) rfl rfl rfl rfl rfl (Nat.le_of_ble_eq_true rfl) rfl d_V_rename_147 (fun H locs hP hD hS => ?_)
      refine lv_pop hx hb d_V_rename_150 rfl ?_
      exact w_V_rename_151 h_p0 h_p0_m h_p0_m_maps h_p0_m_tables h_p0_m_words h_p0_m_blank h_p0_m_queue h_p0_d h_p0_d_maps h_p0_d_tables h_p0_d_words h_p0_d_blank h_p0_d_queue h_p0_young h_p0_dropped h_p0_leaving F m_blank m_maps' m_tables' m_words' m_queue' d_maps' d_tables' d_words' d_blank' d_queue' young' dropped' leaving' ren' r ⟨cf, hr, hlk, hK, hN, hA⟩ x1 x3 x4 x5 x6 x7 m_maps_147 m_tables_147 m_words m_queue_147 d_maps_147 d_tables_147 d_words_147 d_blank_147 d_queue_147 young_147 dropped_147 leaving_147 ren_147 h H locs ls (lv_sub hl [0, 1, 2, 3, 4, 5, 6] rfl) hP hD hS
  · rw [if_pos hc] at h
    refine lv_bipush (v := (-3)) hx hb d_V_rename_134 (by decide) ?_
    cases h
    exact sc_iret cf hr hlk hK hP hD hS d_V_rename_136
set_option maxHeartbeats 4000000 in
set_option maxRecDepth 100000 in
theorem w_V_rename_78 {p : Program} {l : Launch} {e : Env} {s : State} {m : MethodId} {args : Array Value} {below : List Frame} {meth : Method} {c : Code} {D : va_G} {cI cZ : ClassId} {A : Nat → Prop} (h_p0 h_p0_m h_p0_m_maps h_p0_m_tables h_p0_m_words h_p0_m_blank h_p0_m_queue h_p0_d h_p0_d_maps h_p0_d_tables h_p0_d_words h_p0_d_blank h_p0_d_queue h_p0_young h_p0_dropped h_p0_leaving : Nat) (F : Nat) (m_blank : (Nat → Int32)) (m_maps' : (Nat → Int32)) (m_tables' : (Nat → Int32)) (m_words' : (Nat → Int32)) (m_queue' : (Nat → Int32)) (d_maps' : (Nat → Int32)) (d_tables' : (Nat → Int32)) (d_words' : (Nat → Int32)) (d_blank' : (Nat → Int32)) (d_queue' : (Nat → Int32)) (young' : (Nat → Int32)) (dropped' : (Nat → Int32)) (leaving' : (Nat → Int32)) (ren' : Int32) (r : Int32) (cx : cx_ok p s m args meth c b_V_rename 9 o_V_rename "OrderedVolume" (some .int) D cI cZ A) : ∀ (x1 : Int32) (x3 : Int32) (x4 : Int32) (x5 : Int32) (x6 : Int32) (t0 : Int32) (m_maps : (Nat → Int32)) (m_tables : (Nat → Int32)) (m_words : (Nat → Int32)) (m_queue : (Nat → Int32)) (d_maps : (Nat → Int32)) (d_tables : (Nat → Int32)) (d_words : (Nat → Int32)) (d_blank : (Nat → Int32)) (d_queue : (Nat → Int32)) (young : (Nat → Int32)) (dropped : (Nat → Int32)) (leaving : (Nat → Int32)) (ren : Int32), s_V_rename_78 F m_blank x1 x3 x4 x5 x6 t0 m_maps m_tables m_words m_queue d_maps d_tables d_words d_blank d_queue young dropped leaving ren = some (r, m_maps', m_tables', m_words', m_queue', d_maps', d_tables', d_words', d_blank', d_queue', young', dropped', leaving', ren') → wk_G p l e rm_V_rename s m args below meth c (sc_Qi below args s D cI cZ A (w_V cI cZ h_p0 h_p0_m h_p0_m_maps h_p0_m_tables h_p0_m_words h_p0_m_blank h_p0_m_queue h_p0_d h_p0_d_maps h_p0_d_tables h_p0_d_words h_p0_d_blank h_p0_d_queue h_p0_young h_p0_dropped h_p0_leaving (m_maps') (m_tables') (m_words') m_blank (m_queue') (d_maps') (d_tables') (d_words') (d_blank') (d_queue') (young') (dropped') (leaving') (ren')) r) D A 9 78 [.int t0] [(0, .ref h_p0), (1, .int x1), (3, .int x3), (4, .int x4), (5, .int x5), (6, .int x6)] (w_V cI cZ h_p0 h_p0_m h_p0_m_maps h_p0_m_tables h_p0_m_words h_p0_m_blank h_p0_m_queue h_p0_d h_p0_d_maps h_p0_d_tables h_p0_d_words h_p0_d_blank h_p0_d_queue h_p0_young h_p0_dropped h_p0_leaving m_maps m_tables m_words m_blank m_queue d_maps d_tables d_words d_blank d_queue young dropped leaving ren) := by
  obtain ⟨cf, hr, hlk, hK, hN, hA⟩ := cx
  have hx := cf.1
  have hb := cf.2.1
  have hown := cf.2.2.2.1
  have ht : ∀ w ∈ wA, w.before args s = true := fun w h => cf.2.2.2.2 w (List.mem_cons_of_mem _ h)
  intro x1 x3 x4 x5 x6 t0 m_maps m_tables m_words m_queue d_maps d_tables d_words d_blank d_queue young dropped leaving ren h H locs ls hl hP hD hS
  unfold s_V_rename_78 at h
  refine lv_istore (lv' := [(7, .int t0), (0, .ref h_p0), (1, .int x1), (3, .int x3), (4, .int x4), (5, .int x5), (6, .int x6)]) hx hb d_V_rename_78 hl (by decide) rfl (fun ls hl => ?_)
  refine lv_aload_n hx hb d_V_rename_80 rfl (lv_at hl 1 rfl) ?_
  refine va_get (D := D) (ci := 1) (v := .ref h_p0_m) (C := R_V) (T := F_V) (N := 6) hx hb ht in_V hown hK hP 0 rfl rfl 0 (by decide) (ht _ f_V_10) (fun _ h9 => h9) rfl d_V_rename_81 ?_
  refine lv_iload_n hx hb d_V_rename_84 rfl (lv_at hl 3 rfl) ?_
  refine lv_iload hx hb d_V_rename_85 (lv_at hl 4 rfl) ?_
  obtain ⟨r87, h87, h⟩ := bd_some h
  refine wk_Vi (As := [.int x3, .int x4]) (rest := []) (wc := (w_S cI cZ h_p0_m h_p0_m_maps h_p0_m_tables h_p0_m_words h_p0_m_blank h_p0_m_queue m_maps m_tables m_words m_blank m_queue)) (w1 := (w_S cI cZ h_p0_m h_p0_m_maps h_p0_m_tables h_p0_m_words h_p0_m_blank h_p0_m_queue m_maps m_tables m_words m_blank m_queue)) (wr := [(h_p0, .inr (1, [.ref h_p0_m, .ref h_p0_d, .ref h_p0_young, .ref h_p0_dropped, .ref h_p0_leaving, .int ren])), (h_p0_d, .inr (0, [.ref h_p0_d_maps, .ref h_p0_d_tables, .ref h_p0_d_words, .ref h_p0_d_blank, .ref h_p0_d_queue])), (h_p0_d_maps, .inl (cI, 48, .inl d_maps)), (h_p0_d_tables, .inl (cI, 90, .inl d_tables)), (h_p0_d_words, .inl (cI, 288, .inl d_words)), (h_p0_d_blank, .inl (cZ, 36, .inl d_blank)), (h_p0_d_queue, .inl (cI, 18, .inl d_queue)), (h_p0_young, .inl (cI, 36, .inl young)), (h_p0_dropped, .inl (cI, 36, .inl dropped)), (h_p0_leaving, .inl (cI, 18, .inl leaving))]) (wz := (w_V cI cZ h_p0 h_p0_m h_p0_m_maps h_p0_m_tables h_p0_m_words h_p0_m_blank h_p0_m_queue h_p0_d h_p0_d_maps h_p0_d_tables h_p0_d_words h_p0_d_blank h_p0_d_queue h_p0_young h_p0_dropped h_p0_leaving m_maps m_tables m_words m_blank m_queue d_maps d_tables d_words d_blank d_queue young dropped leaving ren)) cf hK hN hA (c_S_cellOfName l D cI cZ h_p0_m h_p0_m_maps h_p0_m_tables h_p0_m_words h_p0_m_blank h_p0_m_queue F m_maps m_tables m_words m_blank m_queue x3 x4 r87 h87) k_V_89 ⟨rfl, rfl, by decide, by decide⟩ 0 rfl rfl rfl hl hP hD hS [1, 2, 3, 4, 5, 6] [0, 7, 8, 9, 10, 11, 12, 13, 14, 15] [0, 10, 11, 12, 13, 14, 15, 1, 2, 3, 4, 5, 6, 7, 8, 9] rfl rfl rfl (by decide) rfl rfl rfl rfl rfl (Nat.le_of_ble_eq_true rfl) rfl d_V_rename_87 (fun H locs hP hD hS => ?_)
  refine lv_iconst (v := (-1)) hx hb d_V_rename_90 (by decide) ?_
  refine lv_icmp_eq hx hb d_V_rename_91 rfl (fun hc => ?_) (fun hc => ?_)
  · rw [if_pos hc] at h
    refine lv_iload hx hb d_V_rename_97 (lv_at hl 0 rfl) ?_
    refine lv_if_eq hx hb d_V_rename_99 rfl (fun hc => ?_) (fun hc => ?_)
    · rw [if_pos hc] at h
      exact w_V_rename_121 h_p0 h_p0_m h_p0_m_maps h_p0_m_tables h_p0_m_words h_p0_m_blank h_p0_m_queue h_p0_d h_p0_d_maps h_p0_d_tables h_p0_d_words h_p0_d_blank h_p0_d_queue h_p0_young h_p0_dropped h_p0_leaving F m_blank m_maps' m_tables' m_words' m_queue' d_maps' d_tables' d_words' d_blank' d_queue' young' dropped' leaving' ren' r ⟨cf, hr, hlk, hK, hN, hA⟩ x1 x3 x4 x5 x6 t0 m_maps m_tables m_words m_queue d_maps d_tables d_words d_blank d_queue young dropped leaving ren h H locs ls (lv_sub hl [1, 2, 3, 4, 5, 6, 0] rfl) hP hD hS
    · rw [if_neg hc] at h
      refine lv_aload_n hx hb d_V_rename_102 rfl (lv_at hl 1 rfl) ?_
      refine va_get (D := D) (ci := 1) (v := .ref h_p0_m) (C := R_V) (T := F_V) (N := 6) hx hb ht in_V hown hK hP 0 rfl rfl 0 (by decide) (ht _ f_V_10) (fun _ h9 => h9) rfl d_V_rename_103 ?_
      refine lv_iload hx hb d_V_rename_106 (lv_at hl 6 rfl) ?_
      obtain ⟨⟨r108, m_queue_108⟩, h108, h⟩ := bd_some h
      dsimp only at h
      refine wk_Vi (As := [.int x6]) (rest := []) (wc := (w_S cI cZ h_p0_m h_p0_m_maps h_p0_m_tables h_p0_m_words h_p0_m_blank h_p0_m_queue m_maps m_tables m_words m_blank m_queue)) (w1 := (w_S cI cZ h_p0_m h_p0_m_maps h_p0_m_tables h_p0_m_words h_p0_m_blank h_p0_m_queue m_maps m_tables m_words m_blank m_queue_108)) (wr := [(h_p0, .inr (1, [.ref h_p0_m, .ref h_p0_d, .ref h_p0_young, .ref h_p0_dropped, .ref h_p0_leaving, .int ren])), (h_p0_d, .inr (0, [.ref h_p0_d_maps, .ref h_p0_d_tables, .ref h_p0_d_words, .ref h_p0_d_blank, .ref h_p0_d_queue])), (h_p0_d_maps, .inl (cI, 48, .inl d_maps)), (h_p0_d_tables, .inl (cI, 90, .inl d_tables)), (h_p0_d_words, .inl (cI, 288, .inl d_words)), (h_p0_d_blank, .inl (cZ, 36, .inl d_blank)), (h_p0_d_queue, .inl (cI, 18, .inl d_queue)), (h_p0_young, .inl (cI, 36, .inl young)), (h_p0_dropped, .inl (cI, 36, .inl dropped)), (h_p0_leaving, .inl (cI, 18, .inl leaving))]) (wz := (w_V cI cZ h_p0 h_p0_m h_p0_m_maps h_p0_m_tables h_p0_m_words h_p0_m_blank h_p0_m_queue h_p0_d h_p0_d_maps h_p0_d_tables h_p0_d_words h_p0_d_blank h_p0_d_queue h_p0_young h_p0_dropped h_p0_leaving m_maps m_tables m_words m_blank m_queue_108 d_maps d_tables d_words d_blank d_queue young dropped leaving ren)) cf hK hN hA (c_S_reach l D cI cZ h_p0_m h_p0_m_maps h_p0_m_tables h_p0_m_words h_p0_m_blank h_p0_m_queue F m_maps m_tables m_words m_blank m_queue m_queue_108 x6 r108 h108) k_V_104 ⟨rfl, rfl, by decide, by decide⟩ 0 rfl rfl rfl hl hP hD hS [1, 2, 3, 4, 5, 6] [0, 7, 8, 9, 10, 11, 12, 13, 14, 15] [0, 10, 11, 12, 13, 14, 15, 1, 2, 3, 4, 5, 6, 7, 8, 9] rfl rfl rfl (by decide) rfl rfl rfl rfl rfl (Nat.le_of_ble_eq_true rfl) rfl d_V_rename_108 (fun H locs hP hD hS => ?_)
      refine lv_iload_n hx hb d_V_rename_111 rfl (lv_at hl 3 rfl) ?_
      obtain ⟨r112, h112, h⟩ := bd_some h
      refine wk_Si (As := [.int r108, .int x3]) (rest := []) (wc := []) (w1 := []) (wr := [(h_p0, .inr (1, [.ref h_p0_m, .ref h_p0_d, .ref h_p0_young, .ref h_p0_dropped, .ref h_p0_leaving, .int ren])), (h_p0_m, .inr (0, [.ref h_p0_m_maps, .ref h_p0_m_tables, .ref h_p0_m_words, .ref h_p0_m_blank, .ref h_p0_m_queue])), (h_p0_m_maps, .inl (cI, 48, .inl m_maps)), (h_p0_m_tables, .inl (cI, 90, .inl m_tables)), (h_p0_m_words, .inl (cI, 288, .inl m_words)), (h_p0_m_blank, .inl (cZ, 36, .inl m_blank)), (h_p0_m_queue, .inl (cI, 18, .inl m_queue_108)), (h_p0_d, .inr (0, [.ref h_p0_d_maps, .ref h_p0_d_tables, .ref h_p0_d_words, .ref h_p0_d_blank, .ref h_p0_d_queue])), (h_p0_d_maps, .inl (cI, 48, .inl d_maps)), (h_p0_d_tables, .inl (cI, 90, .inl d_tables)), (h_p0_d_words, .inl (cI, 288, .inl d_words)), (h_p0_d_blank, .inl (cZ, 36, .inl d_blank)), (h_p0_d_queue, .inl (cI, 18, .inl d_queue)), (h_p0_young, .inl (cI, 36, .inl young)), (h_p0_dropped, .inl (cI, 36, .inl dropped)), (h_p0_leaving, .inl (cI, 18, .inl leaving))]) (wz := (w_V cI cZ h_p0 h_p0_m h_p0_m_maps h_p0_m_tables h_p0_m_words h_p0_m_blank h_p0_m_queue h_p0_d h_p0_d_maps h_p0_d_tables h_p0_d_words h_p0_d_blank h_p0_d_queue h_p0_young h_p0_dropped h_p0_leaving m_maps m_tables m_words m_blank m_queue_108 d_maps d_tables d_words d_blank d_queue young dropped leaving ren)) cf hK hN hA (c_V_has l D cI cZ 0 r108 x3 r112 h112) k_V_107 ⟨rfl, rfl, by decide, by decide⟩ hl hP hD hS [] [0, 1, 2, 3, 4, 5, 6, 7, 8, 9, 10, 11, 12, 13, 14, 15] [0, 1, 2, 3, 4, 5, 6, 7, 8, 9, 10, 11, 12, 13, 14, 15] rfl rfl rfl (by decide) rfl rfl rfl rfl rfl (Nat.le_of_ble_eq_true rfl) rfl d_V_rename_112 (fun H locs hP hD hS => ?_)
      refine lv_if_eq hx hb d_V_rename_115 rfl (fun hc => ?_) (fun hc => ?_)
      · rw [if_pos hc] at h
        exact w_V_rename_121 h_p0 h_p0_m h_p0_m_maps h_p0_m_tables h_p0_m_words h_p0_m_blank h_p0_m_queue h_p0_d h_p0_d_maps h_p0_d_tables h_p0_d_words h_p0_d_blank h_p0_d_queue h_p0_young h_p0_dropped h_p0_leaving F m_blank m_maps' m_tables' m_words' m_queue' d_maps' d_tables' d_words' d_blank' d_queue' young' dropped' leaving' ren' r ⟨cf, hr, hlk, hK, hN, hA⟩ x1 x3 x4 x5 x6 t0 m_maps m_tables m_words m_queue_108 d_maps d_tables d_words d_blank d_queue young dropped leaving ren h H locs ls (lv_sub hl [1, 2, 3, 4, 5, 6, 0] rfl) hP hD hS
      · rw [if_neg hc] at h
        refine lv_bipush (v := (-4)) hx hb d_V_rename_118 (by decide) ?_
        cases h
        exact sc_iret cf hr hlk hK hP hD hS d_V_rename_120
  · rw [if_neg hc] at h
    refine lv_bipush (v := (-2)) hx hb d_V_rename_94 (by decide) ?_
    cases h
    exact sc_iret cf hr hlk hK hP hD hS d_V_rename_96
set_option maxHeartbeats 4000000 in
set_option maxRecDepth 100000 in
theorem c_V_rename (l : Launch) (D : va_G) (cI cZ : ClassId) (h_p0 h_p0_m h_p0_m_maps h_p0_m_tables h_p0_m_words h_p0_m_blank h_p0_m_queue h_p0_d h_p0_d_maps h_p0_d_tables h_p0_d_words h_p0_d_blank h_p0_d_queue h_p0_young h_p0_dropped h_p0_leaving : Nat) (F : Nat) (m_maps : (Nat → Int32)) (m_tables : (Nat → Int32)) (m_words : (Nat → Int32)) (m_blank : (Nat → Int32)) (m_queue : (Nat → Int32)) (d_maps : (Nat → Int32)) (d_tables : (Nat → Int32)) (d_words : (Nat → Int32)) (d_blank : (Nat → Int32)) (d_queue : (Nat → Int32)) (young : (Nat → Int32)) (dropped : (Nat → Int32)) (leaving : (Nat → Int32)) (ren : Int32) (m_maps' : (Nat → Int32)) (m_tables' : (Nat → Int32)) (m_words' : (Nat → Int32)) (m_queue' : (Nat → Int32)) (d_maps' : (Nat → Int32)) (d_tables' : (Nat → Int32)) (d_words' : (Nat → Int32)) (d_blank' : (Nat → Int32)) (d_queue' : (Nat → Int32)) (young' : (Nat → Int32)) (dropped' : (Nat → Int32)) (leaving' : (Nat → Int32)) (ren' : Int32) (x1 : Int32) (x2 : Int32) (x3 : Int32) (x4 : Int32) (r : Int32) (h : s_V_rename F m_blank x1 x2 x3 x4 m_maps m_tables m_words m_queue d_maps d_tables d_words d_blank d_queue young dropped leaving ren = some (r, m_maps', m_tables', m_words', m_queue', d_maps', d_tables', d_words', d_blank', d_queue', young', dropped', leaving', ren')) : sc_i l y_V_rename (o_V_rename :: wA) rm_V_rename D cI cZ [.ref h_p0, .int x1, .int x2, .int x3, .int x4] (w_V cI cZ h_p0 h_p0_m h_p0_m_maps h_p0_m_tables h_p0_m_words h_p0_m_blank h_p0_m_queue h_p0_d h_p0_d_maps h_p0_d_tables h_p0_d_words h_p0_d_blank h_p0_d_queue h_p0_young h_p0_dropped h_p0_leaving m_maps m_tables m_words m_blank m_queue d_maps d_tables d_words d_blank d_queue young dropped leaving ren) (w_V cI cZ h_p0 h_p0_m h_p0_m_maps h_p0_m_tables h_p0_m_words h_p0_m_blank h_p0_m_queue h_p0_d h_p0_d_maps h_p0_d_tables h_p0_d_words h_p0_d_blank h_p0_d_queue h_p0_young h_p0_dropped h_p0_leaving (m_maps') (m_tables') (m_words') m_blank (m_queue') (d_maps') (d_tables') (d_words') (d_blank') (d_queue') (young') (dropped') (leaving') (ren')) r := by
  refine sc_i_of (cc := b_V_rename) (maxL := 9) (ret := (some .int)) (by decide) rfl (Nat.le_of_ble_eq_true rfl) ?_
  intro p e s m below meth c A cf hr hlk hK hN hA H locs ls hl hP hD hS
  have hx := cf.1
  have hb := cf.2.1
  have hown := cf.2.2.2.1
  have ht : ∀ w ∈ wA, w.before _ s = true := fun w h => cf.2.2.2.2 w (List.mem_cons_of_mem _ h)
  unfold s_V_rename at h
  have hl : lv_has ls 9 [(0, .ref h_p0), (1, .int x1), (2, .int x2), (3, .int x3), (4, .int x4)] := hl
  refine lv_aload_n hx hb d_V_rename_0 rfl (lv_at hl 0 rfl) ?_
  refine lv_iload_n hx hb d_V_rename_1 rfl (lv_at hl 1 rfl) ?_
  obtain ⟨⟨r2, m_queue_2⟩, h2, h⟩ := bd_some h
  dsimp only at h
  refine wk_Vi (As := [.int x1]) (rest := []) (wc := (w_V cI cZ h_p0 h_p0_m h_p0_m_maps h_p0_m_tables h_p0_m_words h_p0_m_blank h_p0_m_queue h_p0_d h_p0_d_maps h_p0_d_tables h_p0_d_words h_p0_d_blank h_p0_d_queue h_p0_young h_p0_dropped h_p0_leaving m_maps m_tables m_words m_blank m_queue d_maps d_tables d_words d_blank d_queue young dropped leaving ren)) (w1 := (w_V cI cZ h_p0 h_p0_m h_p0_m_maps h_p0_m_tables h_p0_m_words h_p0_m_blank h_p0_m_queue h_p0_d h_p0_d_maps h_p0_d_tables h_p0_d_words h_p0_d_blank h_p0_d_queue h_p0_young h_p0_dropped h_p0_leaving m_maps m_tables m_words m_blank m_queue_2 d_maps d_tables d_words d_blank d_queue young dropped leaving ren)) (wr := []) (wz := (w_V cI cZ h_p0 h_p0_m h_p0_m_maps h_p0_m_tables h_p0_m_words h_p0_m_blank h_p0_m_queue h_p0_d h_p0_d_maps h_p0_d_tables h_p0_d_words h_p0_d_blank h_p0_d_queue h_p0_young h_p0_dropped h_p0_leaving m_maps m_tables m_words m_blank m_queue_2 d_maps d_tables d_words d_blank d_queue young dropped leaving ren)) cf hK hN hA (c_V_isTreeDirectory l D cI cZ h_p0 h_p0_m h_p0_m_maps h_p0_m_tables h_p0_m_words h_p0_m_blank h_p0_m_queue h_p0_d h_p0_d_maps h_p0_d_tables h_p0_d_words h_p0_d_blank h_p0_d_queue h_p0_young h_p0_dropped h_p0_leaving F m_maps m_tables m_words m_blank m_queue d_maps d_tables d_words d_blank d_queue young dropped leaving ren m_queue_2 x1 r2 h2) k_V_33 ⟨rfl, rfl, by decide, by decide⟩ 1 rfl rfl rfl hl hP hD hS [0, 1, 2, 3, 4, 5, 6, 7, 8, 9, 10, 11, 12, 13, 14, 15] [] [0, 1, 2, 3, 4, 5, 6, 7, 8, 9, 10, 11, 12, 13, 14, 15] rfl rfl rfl (by decide) rfl rfl rfl rfl rfl (Nat.le_of_ble_eq_true rfl) rfl d_V_rename_2 (fun H locs hP hD hS => ?_)
  refine lv_if_eq hx hb d_V_rename_5 rfl (fun hc => ?_) (fun hc => ?_)
  · rw [if_pos hc] at h
    refine lv_iconst (v := (-1)) hx hb d_V_rename_24 (by decide) ?_
    cases h
    exact sc_iret cf hr hlk hK hP hD hS d_V_rename_25
  · rw [if_neg hc] at h
    refine lv_aload_n hx hb d_V_rename_8 rfl (lv_at hl 0 rfl) ?_
    refine lv_iload_n hx hb d_V_rename_9 rfl (lv_at hl 3 rfl) ?_
    obtain ⟨⟨r10, m_queue_10⟩, h10, h⟩ := bd_some h
    dsimp only at h
    refine wk_Vi (As := [.int x3]) (rest := []) (wc := (w_V cI cZ h_p0 h_p0_m h_p0_m_maps h_p0_m_tables h_p0_m_words h_p0_m_blank h_p0_m_queue h_p0_d h_p0_d_maps h_p0_d_tables h_p0_d_words h_p0_d_blank h_p0_d_queue h_p0_young h_p0_dropped h_p0_leaving m_maps m_tables m_words m_blank m_queue_2 d_maps d_tables d_words d_blank d_queue young dropped leaving ren)) (w1 := (w_V cI cZ h_p0 h_p0_m h_p0_m_maps h_p0_m_tables h_p0_m_words h_p0_m_blank h_p0_m_queue h_p0_d h_p0_d_maps h_p0_d_tables h_p0_d_words h_p0_d_blank h_p0_d_queue h_p0_young h_p0_dropped h_p0_leaving m_maps m_tables m_words m_blank m_queue_10 d_maps d_tables d_words d_blank d_queue young dropped leaving ren)) (wr := []) (wz := (w_V cI cZ h_p0 h_p0_m h_p0_m_maps h_p0_m_tables h_p0_m_words h_p0_m_blank h_p0_m_queue h_p0_d h_p0_d_maps h_p0_d_tables h_p0_d_words h_p0_d_blank h_p0_d_queue h_p0_young h_p0_dropped h_p0_leaving m_maps m_tables m_words m_blank m_queue_10 d_maps d_tables d_words d_blank d_queue young dropped leaving ren)) cf hK hN hA (c_V_isTreeDirectory l D cI cZ h_p0 h_p0_m h_p0_m_maps h_p0_m_tables h_p0_m_words h_p0_m_blank h_p0_m_queue h_p0_d h_p0_d_maps h_p0_d_tables h_p0_d_words h_p0_d_blank h_p0_d_queue h_p0_young h_p0_dropped h_p0_leaving F m_maps m_tables m_words m_blank m_queue_2 d_maps d_tables d_words d_blank d_queue young dropped leaving ren m_queue_10 x3 r10 h10) k_V_33 ⟨rfl, rfl, by decide, by decide⟩ 1 rfl rfl rfl hl hP hD hS [0, 1, 2, 3, 4, 5, 6, 7, 8, 9, 10, 11, 12, 13, 14, 15] [] [0, 1, 2, 3, 4, 5, 6, 7, 8, 9, 10, 11, 12, 13, 14, 15] rfl rfl rfl (by decide) rfl rfl rfl rfl rfl (Nat.le_of_ble_eq_true rfl) rfl d_V_rename_10 (fun H locs hP hD hS => ?_)
    refine lv_if_eq hx hb d_V_rename_13 rfl (fun hc => ?_) (fun hc => ?_)
    · rw [if_pos hc] at h
      refine lv_iconst (v := (-1)) hx hb d_V_rename_24 (by decide) ?_
      cases h
      exact sc_iret cf hr hlk hK hP hD hS d_V_rename_25
    · rw [if_neg hc] at h
      refine lv_iload hx hb d_V_rename_16 (lv_at hl 4 rfl) ?_
      obtain ⟨r18, h18, h⟩ := bd_some h
      refine wk_Si (As := [.int x4]) (rest := []) (wc := []) (w1 := []) (wr := [(h_p0, .inr (1, [.ref h_p0_m, .ref h_p0_d, .ref h_p0_young, .ref h_p0_dropped, .ref h_p0_leaving, .int ren])), (h_p0_m, .inr (0, [.ref h_p0_m_maps, .ref h_p0_m_tables, .ref h_p0_m_words, .ref h_p0_m_blank, .ref h_p0_m_queue])), (h_p0_m_maps, .inl (cI, 48, .inl m_maps)), (h_p0_m_tables, .inl (cI, 90, .inl m_tables)), (h_p0_m_words, .inl (cI, 288, .inl m_words)), (h_p0_m_blank, .inl (cZ, 36, .inl m_blank)), (h_p0_m_queue, .inl (cI, 18, .inl m_queue_10)), (h_p0_d, .inr (0, [.ref h_p0_d_maps, .ref h_p0_d_tables, .ref h_p0_d_words, .ref h_p0_d_blank, .ref h_p0_d_queue])), (h_p0_d_maps, .inl (cI, 48, .inl d_maps)), (h_p0_d_tables, .inl (cI, 90, .inl d_tables)), (h_p0_d_words, .inl (cI, 288, .inl d_words)), (h_p0_d_blank, .inl (cZ, 36, .inl d_blank)), (h_p0_d_queue, .inl (cI, 18, .inl d_queue)), (h_p0_young, .inl (cI, 36, .inl young)), (h_p0_dropped, .inl (cI, 36, .inl dropped)), (h_p0_leaving, .inl (cI, 18, .inl leaving))]) (wz := (w_V cI cZ h_p0 h_p0_m h_p0_m_maps h_p0_m_tables h_p0_m_words h_p0_m_blank h_p0_m_queue h_p0_d h_p0_d_maps h_p0_d_tables h_p0_d_words h_p0_d_blank h_p0_d_queue h_p0_young h_p0_dropped h_p0_leaving m_maps m_tables m_words m_blank m_queue_10 d_maps d_tables d_words d_blank d_queue young dropped leaving ren)) cf hK hN hA (c_V_isName l D cI cZ 0 x4 r18 h18) k_V_37 ⟨rfl, rfl, by decide, by decide⟩ hl hP hD hS [] [0, 1, 2, 3, 4, 5, 6, 7, 8, 9, 10, 11, 12, 13, 14, 15] [0, 1, 2, 3, 4, 5, 6, 7, 8, 9, 10, 11, 12, 13, 14, 15] rfl rfl rfl (by decide) rfl rfl rfl rfl rfl (Nat.le_of_ble_eq_true rfl) rfl d_V_rename_18 (fun H locs hP hD hS => ?_)
      refine lv_if_ne hx hb d_V_rename_21 rfl (fun hc => ?_) (fun hc => ?_)
      · rw [if_neg hc] at h
        refine lv_aload_n hx hb d_V_rename_26 rfl (lv_at hl 0 rfl) ?_
        refine va_get (D := D) (ci := 1) (v := .ref h_p0_m) (C := R_V) (T := F_V) (N := 6) hx hb ht in_V hown hK hP 0 rfl rfl 0 (by decide) (ht _ f_V_10) (fun _ h9 => h9) rfl d_V_rename_27 ?_
        refine lv_iload_n hx hb d_V_rename_30 rfl (lv_at hl 1 rfl) ?_
        refine lv_iload_n hx hb d_V_rename_31 rfl (lv_at hl 2 rfl) ?_
        obtain ⟨r32, h32, h⟩ := bd_some h
        refine wk_Vi (As := [.int x1, .int x2]) (rest := []) (wc := (w_S cI cZ h_p0_m h_p0_m_maps h_p0_m_tables h_p0_m_words h_p0_m_blank h_p0_m_queue m_maps m_tables m_words m_blank m_queue_10)) (w1 := (w_S cI cZ h_p0_m h_p0_m_maps h_p0_m_tables h_p0_m_words h_p0_m_blank h_p0_m_queue m_maps m_tables m_words m_blank m_queue_10)) (wr := [(h_p0, .inr (1, [.ref h_p0_m, .ref h_p0_d, .ref h_p0_young, .ref h_p0_dropped, .ref h_p0_leaving, .int ren])), (h_p0_d, .inr (0, [.ref h_p0_d_maps, .ref h_p0_d_tables, .ref h_p0_d_words, .ref h_p0_d_blank, .ref h_p0_d_queue])), (h_p0_d_maps, .inl (cI, 48, .inl d_maps)), (h_p0_d_tables, .inl (cI, 90, .inl d_tables)), (h_p0_d_words, .inl (cI, 288, .inl d_words)), (h_p0_d_blank, .inl (cZ, 36, .inl d_blank)), (h_p0_d_queue, .inl (cI, 18, .inl d_queue)), (h_p0_young, .inl (cI, 36, .inl young)), (h_p0_dropped, .inl (cI, 36, .inl dropped)), (h_p0_leaving, .inl (cI, 18, .inl leaving))]) (wz := (w_V cI cZ h_p0 h_p0_m h_p0_m_maps h_p0_m_tables h_p0_m_words h_p0_m_blank h_p0_m_queue h_p0_d h_p0_d_maps h_p0_d_tables h_p0_d_words h_p0_d_blank h_p0_d_queue h_p0_young h_p0_dropped h_p0_leaving m_maps m_tables m_words m_blank m_queue_10 d_maps d_tables d_words d_blank d_queue young dropped leaving ren)) cf hK hN hA (c_S_cellOfName l D cI cZ h_p0_m h_p0_m_maps h_p0_m_tables h_p0_m_words h_p0_m_blank h_p0_m_queue F m_maps m_tables m_words m_blank m_queue_10 x1 x2 r32 h32) k_V_89 ⟨rfl, rfl, by decide, by decide⟩ 0 rfl rfl rfl hl hP hD hS [1, 2, 3, 4, 5, 6] [0, 7, 8, 9, 10, 11, 12, 13, 14, 15] [0, 10, 11, 12, 13, 14, 15, 1, 2, 3, 4, 5, 6, 7, 8, 9] rfl rfl rfl (by decide) rfl rfl rfl rfl rfl (Nat.le_of_ble_eq_true rfl) rfl d_V_rename_32 (fun H locs hP hD hS => ?_)
        refine lv_istore (lv' := [(5, .int r32), (0, .ref h_p0), (1, .int x1), (2, .int x2), (3, .int x3), (4, .int x4)]) hx hb d_V_rename_35 hl (by decide) rfl (fun ls hl => ?_)
        refine lv_iload hx hb d_V_rename_37 (lv_at hl 0 rfl) ?_
        refine lv_iconst (v := (-1)) hx hb d_V_rename_39 (by decide) ?_
        refine lv_icmp_ne hx hb d_V_rename_40 rfl (fun hc => ?_) (fun hc => ?_)
        · rw [if_neg hc] at h
          refine lv_aload_n hx hb d_V_rename_45 rfl (lv_at hl 1 rfl) ?_
          refine va_get (D := D) (ci := 1) (v := .ref h_p0_m) (C := R_V) (T := F_V) (N := 6) hx hb ht in_V hown hK hP 0 rfl rfl 0 (by decide) (ht _ f_V_10) (fun _ h9 => h9) rfl d_V_rename_46 ?_
          refine lv_iload_n hx hb d_V_rename_49 rfl (lv_at hl 2 rfl) ?_
          refine lv_iload hx hb d_V_rename_50 (lv_at hl 0 rfl) ?_
          obtain ⟨r52, h52, h⟩ := bd_some h
          refine wk_Vi (As := [.int x1, .int r32]) (rest := []) (wc := (w_S cI cZ h_p0_m h_p0_m_maps h_p0_m_tables h_p0_m_words h_p0_m_blank h_p0_m_queue m_maps m_tables m_words m_blank m_queue_10)) (w1 := (w_S cI cZ h_p0_m h_p0_m_maps h_p0_m_tables h_p0_m_words h_p0_m_blank h_p0_m_queue m_maps m_tables m_words m_blank m_queue_10)) (wr := [(h_p0, .inr (1, [.ref h_p0_m, .ref h_p0_d, .ref h_p0_young, .ref h_p0_dropped, .ref h_p0_leaving, .int ren])), (h_p0_d, .inr (0, [.ref h_p0_d_maps, .ref h_p0_d_tables, .ref h_p0_d_words, .ref h_p0_d_blank, .ref h_p0_d_queue])), (h_p0_d_maps, .inl (cI, 48, .inl d_maps)), (h_p0_d_tables, .inl (cI, 90, .inl d_tables)), (h_p0_d_words, .inl (cI, 288, .inl d_words)), (h_p0_d_blank, .inl (cZ, 36, .inl d_blank)), (h_p0_d_queue, .inl (cI, 18, .inl d_queue)), (h_p0_young, .inl (cI, 36, .inl young)), (h_p0_dropped, .inl (cI, 36, .inl dropped)), (h_p0_leaving, .inl (cI, 18, .inl leaving))]) (wz := (w_V cI cZ h_p0 h_p0_m h_p0_m_maps h_p0_m_tables h_p0_m_words h_p0_m_blank h_p0_m_queue h_p0_d h_p0_d_maps h_p0_d_tables h_p0_d_words h_p0_d_blank h_p0_d_queue h_p0_young h_p0_dropped h_p0_leaving m_maps m_tables m_words m_blank m_queue_10 d_maps d_tables d_words d_blank d_queue young dropped leaving ren)) cf hK hN hA (c_S_entry l D cI cZ h_p0_m h_p0_m_maps h_p0_m_tables h_p0_m_words h_p0_m_blank h_p0_m_queue m_maps m_tables m_words m_blank m_queue_10 x1 r32 r52 h52) k_V_92 ⟨rfl, rfl, by decide, by decide⟩ 0 rfl rfl rfl hl hP hD hS [1, 2, 3, 4, 5, 6] [0, 7, 8, 9, 10, 11, 12, 13, 14, 15] [0, 10, 11, 12, 13, 14, 15, 1, 2, 3, 4, 5, 6, 7, 8, 9] rfl rfl rfl (by decide) rfl rfl rfl rfl rfl (Nat.le_of_ble_eq_true rfl) rfl d_V_rename_52 (fun H locs hP hD hS => ?_)
          refine lv_bipush (v := (nI 32)) hx hb d_V_rename_55 (by decide) ?_
          refine lv_irem hx hb d_V_rename_57 (by decide) ?_
          refine lv_istore (lv' := [(6, .int (r52 - r52 / (nI 32) * (nI 32))), (5, .int r32), (0, .ref h_p0), (1, .int x1), (2, .int x2), (3, .int x3), (4, .int x4)]) hx hb d_V_rename_58 hl (by decide) rfl (fun ls hl => ?_)
          refine lv_aload_n hx hb d_V_rename_60 rfl (lv_at hl 2 rfl) ?_
          refine va_get (D := D) (ci := 1) (v := .ref h_p0_m) (C := R_V) (T := F_V) (N := 6) hx hb ht in_V hown hK hP 0 rfl rfl 0 (by decide) (ht _ f_V_10) (fun _ h9 => h9) rfl d_V_rename_61 ?_
          refine lv_iload hx hb d_V_rename_64 (lv_at hl 0 rfl) ?_
          obtain ⟨r66, h66, h⟩ := bd_some h
          refine wk_Vi (As := [.int (r52 - r52 / (nI 32) * (nI 32))]) (rest := []) (wc := (w_S cI cZ h_p0_m h_p0_m_maps h_p0_m_tables h_p0_m_words h_p0_m_blank h_p0_m_queue m_maps m_tables m_words m_blank m_queue_10)) (w1 := (w_S cI cZ h_p0_m h_p0_m_maps h_p0_m_tables h_p0_m_words h_p0_m_blank h_p0_m_queue m_maps m_tables m_words m_blank m_queue_10)) (wr := [(h_p0, .inr (1, [.ref h_p0_m, .ref h_p0_d, .ref h_p0_young, .ref h_p0_dropped, .ref h_p0_leaving, .int ren])), (h_p0_d, .inr (0, [.ref h_p0_d_maps, .ref h_p0_d_tables, .ref h_p0_d_words, .ref h_p0_d_blank, .ref h_p0_d_queue])), (h_p0_d_maps, .inl (cI, 48, .inl d_maps)), (h_p0_d_tables, .inl (cI, 90, .inl d_tables)), (h_p0_d_words, .inl (cI, 288, .inl d_words)), (h_p0_d_blank, .inl (cZ, 36, .inl d_blank)), (h_p0_d_queue, .inl (cI, 18, .inl d_queue)), (h_p0_young, .inl (cI, 36, .inl young)), (h_p0_dropped, .inl (cI, 36, .inl dropped)), (h_p0_leaving, .inl (cI, 18, .inl leaving))]) (wz := (w_V cI cZ h_p0 h_p0_m h_p0_m_maps h_p0_m_tables h_p0_m_words h_p0_m_blank h_p0_m_queue h_p0_d h_p0_d_maps h_p0_d_tables h_p0_d_words h_p0_d_blank h_p0_d_queue h_p0_young h_p0_dropped h_p0_leaving m_maps m_tables m_words m_blank m_queue_10 d_maps d_tables d_words d_blank d_queue young dropped leaving ren)) cf hK hN hA (c_S_kind l D cI cZ h_p0_m h_p0_m_maps h_p0_m_tables h_p0_m_words h_p0_m_blank h_p0_m_queue m_maps m_tables m_words m_blank m_queue_10 (r52 - r52 / (nI 32) * (nI 32)) r66 h66) k_V_101 ⟨rfl, rfl, by decide, by decide⟩ 0 rfl rfl rfl hl hP hD hS [1, 2, 3, 4, 5, 6] [0, 7, 8, 9, 10, 11, 12, 13, 14, 15] [0, 10, 11, 12, 13, 14, 15, 1, 2, 3, 4, 5, 6, 7, 8, 9] rfl rfl rfl (by decide) rfl rfl rfl rfl rfl (Nat.le_of_ble_eq_true rfl) rfl d_V_rename_66 (fun H locs hP hD hS => ?_)
          refine lv_iconst (v := (nI 2)) hx hb d_V_rename_69 (by decide) ?_
          refine lv_icmp_ne hx hb d_V_rename_70 rfl (fun hc => ?_) (fun hc => ?_)
          · rw [if_neg hc] at h
            refine lv_iconst (v := (nI 0)) hx hb d_V_rename_77 (by decide) ?_
            exact w_V_rename_78 h_p0 h_p0_m h_p0_m_maps h_p0_m_tables h_p0_m_words h_p0_m_blank h_p0_m_queue h_p0_d h_p0_d_maps h_p0_d_tables h_p0_d_words h_p0_d_blank h_p0_d_queue h_p0_young h_p0_dropped h_p0_leaving F m_blank m_maps' m_tables' m_words' m_queue' d_maps' d_tables' d_words' d_blank' d_queue' young' dropped' leaving' ren' r ⟨cf, hr, hlk, hK, hN, hA⟩ x1 x3 x4 r32 (r52 - r52 / (nI 32) * (nI 32)) (nI 0) m_maps m_tables m_words m_queue_10 d_maps d_tables d_words d_blank d_queue young dropped leaving ren h H locs ls (lv_sub hl [2, 3, 5, 6, 1, 0] rfl) hP hD hS
          · rw [if_pos hc] at h
            refine lv_iconst (v := (nI 1)) hx hb d_V_rename_73 (by decide) ?_
            refine lv_goto hx hb d_V_rename_74 rfl ?_
            exact w_V_rename_78 h_p0 h_p0_m h_p0_m_maps h_p0_m_tables h_p0_m_words h_p0_m_blank h_p0_m_queue h_p0_d h_p0_d_maps h_p0_d_tables h_p0_d_words h_p0_d_blank h_p0_d_queue h_p0_young h_p0_dropped h_p0_leaving F m_blank m_maps' m_tables' m_words' m_queue' d_maps' d_tables' d_words' d_blank' d_queue' young' dropped' leaving' ren' r ⟨cf, hr, hlk, hK, hN, hA⟩ x1 x3 x4 r32 (r52 - r52 / (nI 32) * (nI 32)) (nI 1) m_maps m_tables m_words m_queue_10 d_maps d_tables d_words d_blank d_queue young dropped leaving ren h H locs ls (lv_sub hl [2, 3, 5, 6, 1, 0] rfl) hP hD hS
        · rw [if_pos hc] at h
          refine lv_iconst (v := (-1)) hx hb d_V_rename_43 (by decide) ?_
          cases h
          exact sc_iret cf hr hlk hK hP hD hS d_V_rename_44
      · rw [if_pos hc] at h
        refine lv_iconst (v := (-1)) hx hb d_V_rename_24 (by decide) ?_
        cases h
        exact sc_iret cf hr hlk hK hP hD hS d_V_rename_25
set_option maxHeartbeats 4000000 in
set_option maxRecDepth 100000 in
theorem c_V_sync (l : Launch) (D : va_G) (cI cZ : ClassId) (h_p0 h_p0_m h_p0_m_maps h_p0_m_tables h_p0_m_words h_p0_m_blank h_p0_m_queue h_p0_d h_p0_d_maps h_p0_d_tables h_p0_d_words h_p0_d_blank h_p0_d_queue h_p0_young h_p0_dropped h_p0_leaving : Nat) (F : Nat) (m_maps : (Nat → Int32)) (m_tables : (Nat → Int32)) (m_words : (Nat → Int32)) (m_blank : (Nat → Int32)) (m_queue : (Nat → Int32)) (d_maps : (Nat → Int32)) (d_tables : (Nat → Int32)) (d_words : (Nat → Int32)) (d_blank : (Nat → Int32)) (d_queue : (Nat → Int32)) (young : (Nat → Int32)) (dropped : (Nat → Int32)) (leaving : (Nat → Int32)) (ren : Int32) (m_maps' : (Nat → Int32)) (m_tables' : (Nat → Int32)) (m_queue' : (Nat → Int32)) (d_maps' : (Nat → Int32)) (d_tables' : (Nat → Int32)) (d_words' : (Nat → Int32)) (d_blank' : (Nat → Int32)) (d_queue' : (Nat → Int32)) (young' : (Nat → Int32)) (dropped' : (Nat → Int32)) (leaving' : (Nat → Int32)) (ren' : Int32) (r : Int32) (h : s_V_sync F m_words m_blank m_maps m_tables m_queue d_maps d_tables d_words d_blank d_queue young dropped leaving ren = some (r, m_maps', m_tables', m_queue', d_maps', d_tables', d_words', d_blank', d_queue', young', dropped', leaving', ren')) : sc_i l y_V_sync (o_V_sync :: wA) rm_V_sync D cI cZ [.ref h_p0] (w_V cI cZ h_p0 h_p0_m h_p0_m_maps h_p0_m_tables h_p0_m_words h_p0_m_blank h_p0_m_queue h_p0_d h_p0_d_maps h_p0_d_tables h_p0_d_words h_p0_d_blank h_p0_d_queue h_p0_young h_p0_dropped h_p0_leaving m_maps m_tables m_words m_blank m_queue d_maps d_tables d_words d_blank d_queue young dropped leaving ren) (w_V cI cZ h_p0 h_p0_m h_p0_m_maps h_p0_m_tables h_p0_m_words h_p0_m_blank h_p0_m_queue h_p0_d h_p0_d_maps h_p0_d_tables h_p0_d_words h_p0_d_blank h_p0_d_queue h_p0_young h_p0_dropped h_p0_leaving (m_maps') (m_tables') m_words m_blank (m_queue') (d_maps') (d_tables') (d_words') (d_blank') (d_queue') (young') (dropped') (leaving') (ren')) r := by
  refine sc_i_of (cc := b_V_sync) (maxL := 1) (ret := (some .int)) (by decide) rfl (Nat.le_of_ble_eq_true rfl) ?_
  intro p e s m below meth c A cf hr hlk hK hN hA H locs ls hl hP hD hS
  have hx := cf.1
  have hb := cf.2.1
  have hown := cf.2.2.2.1
  have ht : ∀ w ∈ wA, w.before _ s = true := fun w h => cf.2.2.2.2 w (List.mem_cons_of_mem _ h)
  unfold s_V_sync at h
  have hl : lv_has ls 1 [(0, .ref h_p0)] := hl
  refine lv_aload_n hx hb d_V_sync_0 rfl (lv_at hl 0 rfl) ?_
  obtain ⟨⟨r1, m_maps_1, m_tables_1, m_queue_1, d_maps_1, d_tables_1, d_words_1, d_blank_1, d_queue_1, young_1, dropped_1, leaving_1, ren_1⟩, h1, h⟩ := bd_some h
  dsimp only at h
  refine wk_Vi (As := []) (rest := []) (wc := (w_V cI cZ h_p0 h_p0_m h_p0_m_maps h_p0_m_tables h_p0_m_words h_p0_m_blank h_p0_m_queue h_p0_d h_p0_d_maps h_p0_d_tables h_p0_d_words h_p0_d_blank h_p0_d_queue h_p0_young h_p0_dropped h_p0_leaving m_maps m_tables m_words m_blank m_queue d_maps d_tables d_words d_blank d_queue young dropped leaving ren)) (w1 := (w_V cI cZ h_p0 h_p0_m h_p0_m_maps h_p0_m_tables h_p0_m_words h_p0_m_blank h_p0_m_queue h_p0_d h_p0_d_maps h_p0_d_tables h_p0_d_words h_p0_d_blank h_p0_d_queue h_p0_young h_p0_dropped h_p0_leaving m_maps_1 m_tables_1 m_words m_blank m_queue_1 d_maps_1 d_tables_1 d_words_1 d_blank_1 d_queue_1 young_1 dropped_1 leaving_1 ren_1)) (wr := []) (wz := (w_V cI cZ h_p0 h_p0_m h_p0_m_maps h_p0_m_tables h_p0_m_words h_p0_m_blank h_p0_m_queue h_p0_d h_p0_d_maps h_p0_d_tables h_p0_d_words h_p0_d_blank h_p0_d_queue h_p0_young h_p0_dropped h_p0_leaving m_maps_1 m_tables_1 m_words m_blank m_queue_1 d_maps_1 d_tables_1 d_words_1 d_blank_1 d_queue_1 young_1 dropped_1 leaving_1 ren_1)) cf hK hN hA (c_V_makeAlike l D cI cZ h_p0 h_p0_m h_p0_m_maps h_p0_m_tables h_p0_m_words h_p0_m_blank h_p0_m_queue h_p0_d h_p0_d_maps h_p0_d_tables h_p0_d_words h_p0_d_blank h_p0_d_queue h_p0_young h_p0_dropped h_p0_leaving F m_maps m_tables m_words m_blank m_queue d_maps d_tables d_words d_blank d_queue young dropped leaving ren m_maps_1 m_tables_1 m_queue_1 d_maps_1 d_tables_1 d_words_1 d_blank_1 d_queue_1 young_1 dropped_1 leaving_1 ren_1 r1 h1) k_V_48 ⟨rfl, rfl, by decide, by decide⟩ 1 rfl rfl rfl hl hP hD hS [0, 1, 2, 3, 4, 5, 6, 7, 8, 9, 10, 11, 12, 13, 14, 15] [] [0, 1, 2, 3, 4, 5, 6, 7, 8, 9, 10, 11, 12, 13, 14, 15] rfl rfl rfl (by decide) rfl rfl rfl rfl rfl (Nat.le_of_ble_eq_true rfl) rfl d_V_sync_1 (fun H locs hP hD hS => ?_)
  cases h
  exact sc_iret cf hr hlk hK hP hD hS d_V_sync_4
set_option maxHeartbeats 4000000 in
set_option maxRecDepth 100000 in
theorem w_V_write_92 {p : Program} {l : Launch} {e : Env} {s : State} {m : MethodId} {args : Array Value} {below : List Frame} {meth : Method} {c : Code} {D : va_G} {cI cZ : ClassId} {A : Nat → Prop} (h_p0 h_p0_m h_p0_m_maps h_p0_m_tables h_p0_m_words h_p0_m_blank h_p0_m_queue h_p0_d h_p0_d_maps h_p0_d_tables h_p0_d_words h_p0_d_blank h_p0_d_queue h_p0_young h_p0_dropped h_p0_leaving : Nat) (F : Nat) (m_blank : (Nat → Int32)) (m_maps' : (Nat → Int32)) (m_tables' : (Nat → Int32)) (m_words' : (Nat → Int32)) (m_queue' : (Nat → Int32)) (d_maps' : (Nat → Int32)) (d_tables' : (Nat → Int32)) (d_words' : (Nat → Int32)) (d_blank' : (Nat → Int32)) (d_queue' : (Nat → Int32)) (young' : (Nat → Int32)) (dropped' : (Nat → Int32)) (leaving' : (Nat → Int32)) (ren' : Int32) (r : Int32) (cx : cx_ok p s m args meth c b_V_write 6 o_V_write "OrderedVolume" (some .int) D cI cZ A) : ∀ (x1 : Int32) (x2 : Int32) (x3 : Int32) (x4 : Int32) (m_maps : (Nat → Int32)) (m_tables : (Nat → Int32)) (m_words : (Nat → Int32)) (m_queue : (Nat → Int32)) (d_maps : (Nat → Int32)) (d_tables : (Nat → Int32)) (d_words : (Nat → Int32)) (d_blank : (Nat → Int32)) (d_queue : (Nat → Int32)) (young : (Nat → Int32)) (dropped : (Nat → Int32)) (leaving : (Nat → Int32)) (ren : Int32), s_V_write_92 F m_blank x1 x2 x3 x4 m_maps m_tables m_words m_queue d_maps d_tables d_words d_blank d_queue young dropped leaving ren = some (r, m_maps', m_tables', m_words', m_queue', d_maps', d_tables', d_words', d_blank', d_queue', young', dropped', leaving', ren') → wk_G p l e rm_V_write s m args below meth c (sc_Qi below args s D cI cZ A (w_V cI cZ h_p0 h_p0_m h_p0_m_maps h_p0_m_tables h_p0_m_words h_p0_m_blank h_p0_m_queue h_p0_d h_p0_d_maps h_p0_d_tables h_p0_d_words h_p0_d_blank h_p0_d_queue h_p0_young h_p0_dropped h_p0_leaving (m_maps') (m_tables') (m_words') m_blank (m_queue') (d_maps') (d_tables') (d_words') (d_blank') (d_queue') (young') (dropped') (leaving') (ren')) r) D A 6 92 [] [(0, .ref h_p0), (1, .int x1), (2, .int x2), (3, .int x3), (4, .int x4)] (w_V cI cZ h_p0 h_p0_m h_p0_m_maps h_p0_m_tables h_p0_m_words h_p0_m_blank h_p0_m_queue h_p0_d h_p0_d_maps h_p0_d_tables h_p0_d_words h_p0_d_blank h_p0_d_queue h_p0_young h_p0_dropped h_p0_leaving m_maps m_tables m_words m_blank m_queue d_maps d_tables d_words d_blank d_queue young dropped leaving ren) := by
  obtain ⟨cf, hr, hlk, hK, hN, hA⟩ := cx
  have hx := cf.1
  have hb := cf.2.1
  have hown := cf.2.2.2.1
  have ht : ∀ w ∈ wA, w.before args s = true := fun w h => cf.2.2.2.2 w (List.mem_cons_of_mem _ h)
  intro x1 x2 x3 x4 m_maps m_tables m_words m_queue d_maps d_tables d_words d_blank d_queue young dropped leaving ren h H locs ls hl hP hD hS
  unfold s_V_write_92 at h
  refine lv_aload_n hx hb d_V_write_92 rfl (lv_at hl 0 rfl) ?_
  refine va_get (D := D) (ci := 1) (v := .ref h_p0_m) (C := R_V) (T := F_V) (N := 6) hx hb ht in_V hown hK hP 0 rfl rfl 0 (by decide) (ht _ f_V_10) (fun _ h9 => h9) rfl d_V_write_93 ?_
  refine lv_iload_n hx hb d_V_write_96 rfl (lv_at hl 1 rfl) ?_
  refine lv_iload hx hb d_V_write_97 (lv_at hl 4 rfl) ?_
  obtain ⟨r99, h99, h⟩ := bd_some h
  refine wk_Vi (As := [.int x1, .int x4]) (rest := []) (wc := (w_S cI cZ h_p0_m h_p0_m_maps h_p0_m_tables h_p0_m_words h_p0_m_blank h_p0_m_queue m_maps m_tables m_words m_blank m_queue)) (w1 := (w_S cI cZ h_p0_m h_p0_m_maps h_p0_m_tables h_p0_m_words h_p0_m_blank h_p0_m_queue m_maps m_tables m_words m_blank m_queue)) (wr := [(h_p0, .inr (1, [.ref h_p0_m, .ref h_p0_d, .ref h_p0_young, .ref h_p0_dropped, .ref h_p0_leaving, .int ren])), (h_p0_d, .inr (0, [.ref h_p0_d_maps, .ref h_p0_d_tables, .ref h_p0_d_words, .ref h_p0_d_blank, .ref h_p0_d_queue])), (h_p0_d_maps, .inl (cI, 48, .inl d_maps)), (h_p0_d_tables, .inl (cI, 90, .inl d_tables)), (h_p0_d_words, .inl (cI, 288, .inl d_words)), (h_p0_d_blank, .inl (cZ, 36, .inl d_blank)), (h_p0_d_queue, .inl (cI, 18, .inl d_queue)), (h_p0_young, .inl (cI, 36, .inl young)), (h_p0_dropped, .inl (cI, 36, .inl dropped)), (h_p0_leaving, .inl (cI, 18, .inl leaving))]) (wz := (w_V cI cZ h_p0 h_p0_m h_p0_m_maps h_p0_m_tables h_p0_m_words h_p0_m_blank h_p0_m_queue h_p0_d h_p0_d_maps h_p0_d_tables h_p0_d_words h_p0_d_blank h_p0_d_queue h_p0_young h_p0_dropped h_p0_leaving m_maps m_tables m_words m_blank m_queue d_maps d_tables d_words d_blank d_queue young dropped leaving ren)) cf hK hN hA (c_S_pointer l D cI cZ h_p0_m h_p0_m_maps h_p0_m_tables h_p0_m_words h_p0_m_blank h_p0_m_queue m_maps m_tables m_words m_blank m_queue x1 x4 r99 h99) k_V_114 ⟨rfl, rfl, by decide, by decide⟩ 0 rfl rfl rfl hl hP hD hS [1, 2, 3, 4, 5, 6] [0, 7, 8, 9, 10, 11, 12, 13, 14, 15] [0, 10, 11, 12, 13, 14, 15, 1, 2, 3, 4, 5, 6, 7, 8, 9] rfl rfl rfl (by decide) rfl rfl rfl rfl rfl (Nat.le_of_ble_eq_true rfl) rfl d_V_write_99 (fun H locs hP hD hS => ?_)
  refine lv_istore (lv' := [(5, .int r99), (0, .ref h_p0), (1, .int x1), (2, .int x2), (3, .int x3), (4, .int x4)]) hx hb d_V_write_102 hl (by decide) rfl (fun ls hl => ?_)
  refine lv_aload_n hx hb d_V_write_104 rfl (lv_at hl 1 rfl) ?_
  refine va_get (D := D) (ci := 1) (v := .ref h_p0_m) (C := R_V) (T := F_V) (N := 6) hx hb ht in_V hown hK hP 0 rfl rfl 0 (by decide) (ht _ f_V_10) (fun _ h9 => h9) rfl d_V_write_105 ?_
  refine lv_iload hx hb d_V_write_108 (lv_at hl 0 rfl) ?_
  refine lv_iload_n hx hb d_V_write_110 rfl (lv_at hl 3 rfl) ?_
  refine lv_bipush (v := (nI 8)) hx hb d_V_write_111 (by decide) ?_
  refine lv_irem hx hb d_V_write_113 (by decide) ?_
  refine lv_iload_n hx hb d_V_write_114 rfl (lv_at hl 4 rfl) ?_
  obtain ⟨m_words_115, h115, h⟩ := bd_some h
  refine wk_Vv (As := [.int r99, .int (x2 - x2 / (nI 8) * (nI 8)), .int x3]) (rest := []) (wc := (w_S cI cZ h_p0_m h_p0_m_maps h_p0_m_tables h_p0_m_words h_p0_m_blank h_p0_m_queue m_maps m_tables m_words m_blank m_queue)) (w1 := (w_S cI cZ h_p0_m h_p0_m_maps h_p0_m_tables h_p0_m_words h_p0_m_blank h_p0_m_queue m_maps m_tables m_words_115 m_blank m_queue)) (wr := [(h_p0, .inr (1, [.ref h_p0_m, .ref h_p0_d, .ref h_p0_young, .ref h_p0_dropped, .ref h_p0_leaving, .int ren])), (h_p0_d, .inr (0, [.ref h_p0_d_maps, .ref h_p0_d_tables, .ref h_p0_d_words, .ref h_p0_d_blank, .ref h_p0_d_queue])), (h_p0_d_maps, .inl (cI, 48, .inl d_maps)), (h_p0_d_tables, .inl (cI, 90, .inl d_tables)), (h_p0_d_words, .inl (cI, 288, .inl d_words)), (h_p0_d_blank, .inl (cZ, 36, .inl d_blank)), (h_p0_d_queue, .inl (cI, 18, .inl d_queue)), (h_p0_young, .inl (cI, 36, .inl young)), (h_p0_dropped, .inl (cI, 36, .inl dropped)), (h_p0_leaving, .inl (cI, 18, .inl leaving))]) (wz := (w_V cI cZ h_p0 h_p0_m h_p0_m_maps h_p0_m_tables h_p0_m_words h_p0_m_blank h_p0_m_queue h_p0_d h_p0_d_maps h_p0_d_tables h_p0_d_words h_p0_d_blank h_p0_d_queue h_p0_young h_p0_dropped h_p0_leaving m_maps m_tables m_words_115 m_blank m_queue d_maps d_tables d_words d_blank d_queue young dropped leaving ren)) cf hK hN hA (c_S_setWord l D cI cZ h_p0_m h_p0_m_maps h_p0_m_tables h_p0_m_words h_p0_m_blank h_p0_m_queue m_maps m_tables m_words m_blank m_queue m_words_115 r99 (x2 - x2 / (nI 8) * (nI 8)) x3 h115) k_V_120 ⟨rfl, rfl, by decide, by decide⟩ 0 rfl rfl rfl hl hP hD hS [1, 2, 3, 4, 5, 6] [0, 7, 8, 9, 10, 11, 12, 13, 14, 15] [0, 10, 11, 12, 13, 14, 15, 1, 2, 3, 4, 5, 6, 7, 8, 9] rfl rfl rfl (by decide) rfl rfl rfl rfl rfl (Nat.le_of_ble_eq_true rfl) rfl d_V_write_115 (fun H locs hP hD hS => ?_)
  refine lv_iload hx hb d_V_write_118 (lv_at hl 0 rfl) ?_
  cases h
  exact sc_iret cf hr hlk hK hP hD hS d_V_write_120
set_option maxHeartbeats 4000000 in
set_option maxRecDepth 100000 in
theorem w_V_write_65 {p : Program} {l : Launch} {e : Env} {s : State} {m : MethodId} {args : Array Value} {below : List Frame} {meth : Method} {c : Code} {D : va_G} {cI cZ : ClassId} {A : Nat → Prop} (h_p0 h_p0_m h_p0_m_maps h_p0_m_tables h_p0_m_words h_p0_m_blank h_p0_m_queue h_p0_d h_p0_d_maps h_p0_d_tables h_p0_d_words h_p0_d_blank h_p0_d_queue h_p0_young h_p0_dropped h_p0_leaving : Nat) (F : Nat) (m_blank : (Nat → Int32)) (m_maps' : (Nat → Int32)) (m_tables' : (Nat → Int32)) (m_words' : (Nat → Int32)) (m_queue' : (Nat → Int32)) (d_maps' : (Nat → Int32)) (d_tables' : (Nat → Int32)) (d_words' : (Nat → Int32)) (d_blank' : (Nat → Int32)) (d_queue' : (Nat → Int32)) (young' : (Nat → Int32)) (dropped' : (Nat → Int32)) (leaving' : (Nat → Int32)) (ren' : Int32) (r : Int32) (cx : cx_ok p s m args meth c b_V_write 6 o_V_write "OrderedVolume" (some .int) D cI cZ A) : ∀ (x1 : Int32) (x2 : Int32) (x3 : Int32) (x4 : Int32) (x5 : Int32) (m_maps : (Nat → Int32)) (m_tables : (Nat → Int32)) (m_words : (Nat → Int32)) (m_queue : (Nat → Int32)) (d_maps : (Nat → Int32)) (d_tables : (Nat → Int32)) (d_words : (Nat → Int32)) (d_blank : (Nat → Int32)) (d_queue : (Nat → Int32)) (young : (Nat → Int32)) (dropped : (Nat → Int32)) (leaving : (Nat → Int32)) (ren : Int32), s_V_write_65 F m_blank x1 x2 x3 x4 x5 m_maps m_tables m_words m_queue d_maps d_tables d_words d_blank d_queue young dropped leaving ren = some (r, m_maps', m_tables', m_words', m_queue', d_maps', d_tables', d_words', d_blank', d_queue', young', dropped', leaving', ren') → wk_G p l e rm_V_write s m args below meth c (sc_Qi below args s D cI cZ A (w_V cI cZ h_p0 h_p0_m h_p0_m_maps h_p0_m_tables h_p0_m_words h_p0_m_blank h_p0_m_queue h_p0_d h_p0_d_maps h_p0_d_tables h_p0_d_words h_p0_d_blank h_p0_d_queue h_p0_young h_p0_dropped h_p0_leaving (m_maps') (m_tables') (m_words') m_blank (m_queue') (d_maps') (d_tables') (d_words') (d_blank') (d_queue') (young') (dropped') (leaving') (ren')) r) D A 6 65 [] [(0, .ref h_p0), (1, .int x1), (2, .int x2), (3, .int x3), (4, .int x4), (5, .int x5)] (w_V cI cZ h_p0 h_p0_m h_p0_m_maps h_p0_m_tables h_p0_m_words h_p0_m_blank h_p0_m_queue h_p0_d h_p0_d_maps h_p0_d_tables h_p0_d_words h_p0_d_blank h_p0_d_queue h_p0_young h_p0_dropped h_p0_leaving m_maps m_tables m_words m_blank m_queue d_maps d_tables d_words d_blank d_queue young dropped leaving ren) := by
  obtain ⟨cf, hr, hlk, hK, hN, hA⟩ := cx
  have hx := cf.1
  have hb := cf.2.1
  have hown := cf.2.2.2.1
  have ht : ∀ w ∈ wA, w.before args s = true := fun w h => cf.2.2.2.2 w (List.mem_cons_of_mem _ h)
  intro x1 x2 x3 x4 x5 m_maps m_tables m_words m_queue d_maps d_tables d_words d_blank d_queue young dropped leaving ren h H locs ls hl hP hD hS
  unfold s_V_write_65 at h
  refine lv_iload hx hb d_V_write_65 (lv_at hl 5 rfl) ?_
  refine lv_iconst (v := (-1)) hx hb d_V_write_67 (by decide) ?_
  refine lv_icmp_ne hx hb d_V_write_68 rfl (fun hc => ?_) (fun hc => ?_)
  · rw [if_neg hc] at h
    refine lv_aload_n hx hb d_V_write_74 rfl (lv_at hl 0 rfl) ?_
    refine lv_iload hx hb d_V_write_75 (lv_at hl 5 rfl) ?_
    obtain ⟨⟨m_maps_77, m_words_77, d_blank_77, young_77⟩, h77, h⟩ := bd_some h
    dsimp only at h
    refine wk_Vv (As := [.int x5]) (rest := []) (wc := (w_V cI cZ h_p0 h_p0_m h_p0_m_maps h_p0_m_tables h_p0_m_words h_p0_m_blank h_p0_m_queue h_p0_d h_p0_d_maps h_p0_d_tables h_p0_d_words h_p0_d_blank h_p0_d_queue h_p0_young h_p0_dropped h_p0_leaving m_maps m_tables m_words m_blank m_queue d_maps d_tables d_words d_blank d_queue young dropped leaving ren)) (w1 := (w_V cI cZ h_p0 h_p0_m h_p0_m_maps h_p0_m_tables h_p0_m_words h_p0_m_blank h_p0_m_queue h_p0_d h_p0_d_maps h_p0_d_tables h_p0_d_words h_p0_d_blank h_p0_d_queue h_p0_young h_p0_dropped h_p0_leaving m_maps_77 m_tables m_words_77 m_blank m_queue d_maps d_tables d_words d_blank_77 d_queue young_77 dropped leaving ren)) (wr := []) (wz := (w_V cI cZ h_p0 h_p0_m h_p0_m_maps h_p0_m_tables h_p0_m_words h_p0_m_blank h_p0_m_queue h_p0_d h_p0_d_maps h_p0_d_tables h_p0_d_words h_p0_d_blank h_p0_d_queue h_p0_young h_p0_dropped h_p0_leaving m_maps_77 m_tables m_words_77 m_blank m_queue d_maps d_tables d_words d_blank_77 d_queue young_77 dropped leaving ren)) cf hK hN hA (c_V_takeBlock l D cI cZ h_p0 h_p0_m h_p0_m_maps h_p0_m_tables h_p0_m_words h_p0_m_blank h_p0_m_queue h_p0_d h_p0_d_maps h_p0_d_tables h_p0_d_words h_p0_d_blank h_p0_d_queue h_p0_young h_p0_dropped h_p0_leaving F m_maps m_tables m_words m_blank m_queue d_maps d_tables d_words d_blank d_queue young dropped leaving ren m_maps_77 m_words_77 d_blank_77 young_77 x5 h77) k_V_69 ⟨rfl, rfl, by decide, by decide⟩ 1 rfl rfl rfl hl hP hD hS [0, 1, 2, 3, 4, 5, 6, 7, 8, 9, 10, 11, 12, 13, 14, 15] [] [0, 1, 2, 3, 4, 5, 6, 7, 8, 9, 10, 11, 12, 13, 14, 15] rfl rfl rfl (by decide) rfl rfl rfl rfl rfl (Nat.le_of_ble_eq_true rfl) rfl d_V_write_77 (fun H locs hP hD hS => ?_)
    refine lv_aload_n hx hb d_V_write_80 rfl (lv_at hl 0 rfl) ?_
    refine va_get (D := D) (ci := 1) (v := .ref h_p0_m) (C := R_V) (T := F_V) (N := 6) hx hb ht in_V hown hK hP 0 rfl rfl 0 (by decide) (ht _ f_V_10) (fun _ h9 => h9) rfl d_V_write_81 ?_
    refine lv_iload_n hx hb d_V_write_84 rfl (lv_at hl 1 rfl) ?_
    refine lv_iload hx hb d_V_write_85 (lv_at hl 4 rfl) ?_
    refine lv_iload hx hb d_V_write_87 (lv_at hl 5 rfl) ?_
    obtain ⟨m_tables_89, h89, h⟩ := bd_some h
    refine wk_Vv (As := [.int x1, .int x4, .int x5]) (rest := []) (wc := (w_S cI cZ h_p0_m h_p0_m_maps h_p0_m_tables h_p0_m_words h_p0_m_blank h_p0_m_queue m_maps_77 m_tables m_words_77 m_blank m_queue)) (w1 := (w_S cI cZ h_p0_m h_p0_m_maps h_p0_m_tables h_p0_m_words h_p0_m_blank h_p0_m_queue m_maps_77 m_tables_89 m_words_77 m_blank m_queue)) (wr := [(h_p0, .inr (1, [.ref h_p0_m, .ref h_p0_d, .ref h_p0_young, .ref h_p0_dropped, .ref h_p0_leaving, .int ren])), (h_p0_d, .inr (0, [.ref h_p0_d_maps, .ref h_p0_d_tables, .ref h_p0_d_words, .ref h_p0_d_blank, .ref h_p0_d_queue])), (h_p0_d_maps, .inl (cI, 48, .inl d_maps)), (h_p0_d_tables, .inl (cI, 90, .inl d_tables)), (h_p0_d_words, .inl (cI, 288, .inl d_words)), (h_p0_d_blank, .inl (cZ, 36, .inl d_blank_77)), (h_p0_d_queue, .inl (cI, 18, .inl d_queue)), (h_p0_young, .inl (cI, 36, .inl young_77)), (h_p0_dropped, .inl (cI, 36, .inl dropped)), (h_p0_leaving, .inl (cI, 18, .inl leaving))]) (wz := (w_V cI cZ h_p0 h_p0_m h_p0_m_maps h_p0_m_tables h_p0_m_words h_p0_m_blank h_p0_m_queue h_p0_d h_p0_d_maps h_p0_d_tables h_p0_d_words h_p0_d_blank h_p0_d_queue h_p0_young h_p0_dropped h_p0_leaving m_maps_77 m_tables_89 m_words_77 m_blank m_queue d_maps d_tables d_words d_blank_77 d_queue young_77 dropped leaving ren)) cf hK hN hA (c_S_setPointer l D cI cZ h_p0_m h_p0_m_maps h_p0_m_tables h_p0_m_words h_p0_m_blank h_p0_m_queue m_maps_77 m_tables m_words_77 m_blank m_queue m_tables_89 x1 x4 x5 h89) k_V_73 ⟨rfl, rfl, by decide, by decide⟩ 0 rfl rfl rfl hl hP hD hS [1, 2, 3, 4, 5, 6] [0, 7, 8, 9, 10, 11, 12, 13, 14, 15] [0, 10, 11, 12, 13, 14, 15, 1, 2, 3, 4, 5, 6, 7, 8, 9] rfl rfl rfl (by decide) rfl rfl rfl rfl rfl (Nat.le_of_ble_eq_true rfl) rfl d_V_write_89 (fun H locs hP hD hS => ?_)
    exact w_V_write_92 h_p0 h_p0_m h_p0_m_maps h_p0_m_tables h_p0_m_words h_p0_m_blank h_p0_m_queue h_p0_d h_p0_d_maps h_p0_d_tables h_p0_d_words h_p0_d_blank h_p0_d_queue h_p0_young h_p0_dropped h_p0_leaving F m_blank m_maps' m_tables' m_words' m_queue' d_maps' d_tables' d_words' d_blank' d_queue' young' dropped' leaving' ren' r ⟨cf, hr, hlk, hK, hN, hA⟩ x1 x2 x3 x4 m_maps_77 m_tables_89 m_words_77 m_queue d_maps d_tables d_words d_blank_77 d_queue young_77 dropped leaving ren h H locs ls (lv_sub hl [0, 1, 2, 3, 4] rfl) hP hD hS
  · rw [if_pos hc] at h
    refine lv_bipush (v := (-3)) hx hb d_V_write_71 (by decide) ?_
    cases h
    exact sc_iret cf hr hlk hK hP hD hS d_V_write_73
set_option maxHeartbeats 4000000 in
set_option maxRecDepth 100000 in
theorem c_V_write (l : Launch) (D : va_G) (cI cZ : ClassId) (h_p0 h_p0_m h_p0_m_maps h_p0_m_tables h_p0_m_words h_p0_m_blank h_p0_m_queue h_p0_d h_p0_d_maps h_p0_d_tables h_p0_d_words h_p0_d_blank h_p0_d_queue h_p0_young h_p0_dropped h_p0_leaving : Nat) (F : Nat) (m_maps : (Nat → Int32)) (m_tables : (Nat → Int32)) (m_words : (Nat → Int32)) (m_blank : (Nat → Int32)) (m_queue : (Nat → Int32)) (d_maps : (Nat → Int32)) (d_tables : (Nat → Int32)) (d_words : (Nat → Int32)) (d_blank : (Nat → Int32)) (d_queue : (Nat → Int32)) (young : (Nat → Int32)) (dropped : (Nat → Int32)) (leaving : (Nat → Int32)) (ren : Int32) (m_maps' : (Nat → Int32)) (m_tables' : (Nat → Int32)) (m_words' : (Nat → Int32)) (m_queue' : (Nat → Int32)) (d_maps' : (Nat → Int32)) (d_tables' : (Nat → Int32)) (d_words' : (Nat → Int32)) (d_blank' : (Nat → Int32)) (d_queue' : (Nat → Int32)) (young' : (Nat → Int32)) (dropped' : (Nat → Int32)) (leaving' : (Nat → Int32)) (ren' : Int32) (x1 : Int32) (x2 : Int32) (x3 : Int32) (r : Int32) (h : s_V_write F m_blank x1 x2 x3 m_maps m_tables m_words m_queue d_maps d_tables d_words d_blank d_queue young dropped leaving ren = some (r, m_maps', m_tables', m_words', m_queue', d_maps', d_tables', d_words', d_blank', d_queue', young', dropped', leaving', ren')) : sc_i l y_V_write (o_V_write :: wA) rm_V_write D cI cZ [.ref h_p0, .int x1, .int x2, .int x3] (w_V cI cZ h_p0 h_p0_m h_p0_m_maps h_p0_m_tables h_p0_m_words h_p0_m_blank h_p0_m_queue h_p0_d h_p0_d_maps h_p0_d_tables h_p0_d_words h_p0_d_blank h_p0_d_queue h_p0_young h_p0_dropped h_p0_leaving m_maps m_tables m_words m_blank m_queue d_maps d_tables d_words d_blank d_queue young dropped leaving ren) (w_V cI cZ h_p0 h_p0_m h_p0_m_maps h_p0_m_tables h_p0_m_words h_p0_m_blank h_p0_m_queue h_p0_d h_p0_d_maps h_p0_d_tables h_p0_d_words h_p0_d_blank h_p0_d_queue h_p0_young h_p0_dropped h_p0_leaving (m_maps') (m_tables') (m_words') m_blank (m_queue') (d_maps') (d_tables') (d_words') (d_blank') (d_queue') (young') (dropped') (leaving') (ren')) r := by
  refine sc_i_of (cc := b_V_write) (maxL := 6) (ret := (some .int)) (by decide) rfl (Nat.le_of_ble_eq_true rfl) ?_
  intro p e s m below meth c A cf hr hlk hK hN hA H locs ls hl hP hD hS
  have hx := cf.1
  have hb := cf.2.1
  have hown := cf.2.2.2.1
  have ht : ∀ w ∈ wA, w.before _ s = true := fun w h => cf.2.2.2.2 w (List.mem_cons_of_mem _ h)
  unfold s_V_write at h
  have hl : lv_has ls 6 [(0, .ref h_p0), (1, .int x1), (2, .int x2), (3, .int x3)] := hl
  refine lv_aload_n hx hb d_V_write_0 rfl (lv_at hl 0 rfl) ?_
  refine lv_iload_n hx hb d_V_write_1 rfl (lv_at hl 1 rfl) ?_
  obtain ⟨⟨r2, m_queue_2⟩, h2, h⟩ := bd_some h
  dsimp only at h
  refine wk_Vi (As := [.int x1]) (rest := []) (wc := (w_V cI cZ h_p0 h_p0_m h_p0_m_maps h_p0_m_tables h_p0_m_words h_p0_m_blank h_p0_m_queue h_p0_d h_p0_d_maps h_p0_d_tables h_p0_d_words h_p0_d_blank h_p0_d_queue h_p0_young h_p0_dropped h_p0_leaving m_maps m_tables m_words m_blank m_queue d_maps d_tables d_words d_blank d_queue young dropped leaving ren)) (w1 := (w_V cI cZ h_p0 h_p0_m h_p0_m_maps h_p0_m_tables h_p0_m_words h_p0_m_blank h_p0_m_queue h_p0_d h_p0_d_maps h_p0_d_tables h_p0_d_words h_p0_d_blank h_p0_d_queue h_p0_young h_p0_dropped h_p0_leaving m_maps m_tables m_words m_blank m_queue_2 d_maps d_tables d_words d_blank d_queue young dropped leaving ren)) (wr := []) (wz := (w_V cI cZ h_p0 h_p0_m h_p0_m_maps h_p0_m_tables h_p0_m_words h_p0_m_blank h_p0_m_queue h_p0_d h_p0_d_maps h_p0_d_tables h_p0_d_words h_p0_d_blank h_p0_d_queue h_p0_young h_p0_dropped h_p0_leaving m_maps m_tables m_words m_blank m_queue_2 d_maps d_tables d_words d_blank d_queue young dropped leaving ren)) cf hK hN hA (c_V_isTreeFile l D cI cZ h_p0 h_p0_m h_p0_m_maps h_p0_m_tables h_p0_m_words h_p0_m_blank h_p0_m_queue h_p0_d h_p0_d_maps h_p0_d_tables h_p0_d_words h_p0_d_blank h_p0_d_queue h_p0_young h_p0_dropped h_p0_leaving F m_maps m_tables m_words m_blank m_queue d_maps d_tables d_words d_blank d_queue young dropped leaving ren m_queue_2 x1 r2 h2) k_V_83 ⟨rfl, rfl, by decide, by decide⟩ 1 rfl rfl rfl hl hP hD hS [0, 1, 2, 3, 4, 5, 6, 7, 8, 9, 10, 11, 12, 13, 14, 15] [] [0, 1, 2, 3, 4, 5, 6, 7, 8, 9, 10, 11, 12, 13, 14, 15] rfl rfl rfl (by decide) rfl rfl rfl rfl rfl (Nat.le_of_ble_eq_true rfl) rfl d_V_write_2 (fun H locs hP hD hS => ?_)
  refine lv_if_eq hx hb d_V_write_5 rfl (fun hc => ?_) (fun hc => ?_)
  · rw [if_pos hc] at h
    refine lv_iconst (v := (-1)) hx hb d_V_write_15 (by decide) ?_
    cases h
    exact sc_iret cf hr hlk hK hP hD hS d_V_write_16
  · rw [if_neg hc] at h
    refine lv_iload_n hx hb d_V_write_8 rfl (lv_at hl 2 rfl) ?_
    obtain ⟨r9, h9, h⟩ := bd_some h
    refine wk_Si (As := [.int x2]) (rest := []) (wc := []) (w1 := []) (wr := [(h_p0, .inr (1, [.ref h_p0_m, .ref h_p0_d, .ref h_p0_young, .ref h_p0_dropped, .ref h_p0_leaving, .int ren])), (h_p0_m, .inr (0, [.ref h_p0_m_maps, .ref h_p0_m_tables, .ref h_p0_m_words, .ref h_p0_m_blank, .ref h_p0_m_queue])), (h_p0_m_maps, .inl (cI, 48, .inl m_maps)), (h_p0_m_tables, .inl (cI, 90, .inl m_tables)), (h_p0_m_words, .inl (cI, 288, .inl m_words)), (h_p0_m_blank, .inl (cZ, 36, .inl m_blank)), (h_p0_m_queue, .inl (cI, 18, .inl m_queue_2)), (h_p0_d, .inr (0, [.ref h_p0_d_maps, .ref h_p0_d_tables, .ref h_p0_d_words, .ref h_p0_d_blank, .ref h_p0_d_queue])), (h_p0_d_maps, .inl (cI, 48, .inl d_maps)), (h_p0_d_tables, .inl (cI, 90, .inl d_tables)), (h_p0_d_words, .inl (cI, 288, .inl d_words)), (h_p0_d_blank, .inl (cZ, 36, .inl d_blank)), (h_p0_d_queue, .inl (cI, 18, .inl d_queue)), (h_p0_young, .inl (cI, 36, .inl young)), (h_p0_dropped, .inl (cI, 36, .inl dropped)), (h_p0_leaving, .inl (cI, 18, .inl leaving))]) (wz := (w_V cI cZ h_p0 h_p0_m h_p0_m_maps h_p0_m_tables h_p0_m_words h_p0_m_blank h_p0_m_queue h_p0_d h_p0_d_maps h_p0_d_tables h_p0_d_words h_p0_d_blank h_p0_d_queue h_p0_young h_p0_dropped h_p0_leaving m_maps m_tables m_words m_blank m_queue_2 d_maps d_tables d_words d_blank d_queue young dropped leaving ren)) cf hK hN hA (c_V_isWord l D cI cZ 0 x2 r9 h9) k_V_111 ⟨rfl, rfl, by decide, by decide⟩ hl hP hD hS [] [0, 1, 2, 3, 4, 5, 6, 7, 8, 9, 10, 11, 12, 13, 14, 15] [0, 1, 2, 3, 4, 5, 6, 7, 8, 9, 10, 11, 12, 13, 14, 15] rfl rfl rfl (by decide) rfl rfl rfl rfl rfl (Nat.le_of_ble_eq_true rfl) rfl d_V_write_9 (fun H locs hP hD hS => ?_)
    refine lv_if_ne hx hb d_V_write_12 rfl (fun hc => ?_) (fun hc => ?_)
    · rw [if_neg hc] at h
      refine lv_iload_n hx hb d_V_write_17 rfl (lv_at hl 2 rfl) ?_
      refine lv_bipush (v := (nI 8)) hx hb d_V_write_18 (by decide) ?_
      refine lv_idiv hx hb d_V_write_20 (by decide) ?_
      refine lv_istore (lv' := [(4, .int (x2 / (nI 8))), (0, .ref h_p0), (1, .int x1), (2, .int x2), (3, .int x3)]) hx hb d_V_write_21 hl (by decide) rfl (fun ls hl => ?_)
      refine lv_aload_n hx hb d_V_write_23 rfl (lv_at hl 1 rfl) ?_
      refine va_get (D := D) (ci := 1) (v := .ref h_p0_m) (C := R_V) (T := F_V) (N := 6) hx hb ht in_V hown hK hP 0 rfl rfl 0 (by decide) (ht _ f_V_10) (fun _ h9 => h9) rfl d_V_write_24 ?_
      refine lv_iload_n hx hb d_V_write_27 rfl (lv_at hl 2 rfl) ?_
      refine lv_iload hx hb d_V_write_28 (lv_at hl 0 rfl) ?_
      obtain ⟨r30, h30, h⟩ := bd_some h
      refine wk_Vi (As := [.int x1, .int (x2 / (nI 8))]) (rest := []) (wc := (w_S cI cZ h_p0_m h_p0_m_maps h_p0_m_tables h_p0_m_words h_p0_m_blank h_p0_m_queue m_maps m_tables m_words m_blank m_queue_2)) (w1 := (w_S cI cZ h_p0_m h_p0_m_maps h_p0_m_tables h_p0_m_words h_p0_m_blank h_p0_m_queue m_maps m_tables m_words m_blank m_queue_2)) (wr := [(h_p0, .inr (1, [.ref h_p0_m, .ref h_p0_d, .ref h_p0_young, .ref h_p0_dropped, .ref h_p0_leaving, .int ren])), (h_p0_d, .inr (0, [.ref h_p0_d_maps, .ref h_p0_d_tables, .ref h_p0_d_words, .ref h_p0_d_blank, .ref h_p0_d_queue])), (h_p0_d_maps, .inl (cI, 48, .inl d_maps)), (h_p0_d_tables, .inl (cI, 90, .inl d_tables)), (h_p0_d_words, .inl (cI, 288, .inl d_words)), (h_p0_d_blank, .inl (cZ, 36, .inl d_blank)), (h_p0_d_queue, .inl (cI, 18, .inl d_queue)), (h_p0_young, .inl (cI, 36, .inl young)), (h_p0_dropped, .inl (cI, 36, .inl dropped)), (h_p0_leaving, .inl (cI, 18, .inl leaving))]) (wz := (w_V cI cZ h_p0 h_p0_m h_p0_m_maps h_p0_m_tables h_p0_m_words h_p0_m_blank h_p0_m_queue h_p0_d h_p0_d_maps h_p0_d_tables h_p0_d_words h_p0_d_blank h_p0_d_queue h_p0_young h_p0_dropped h_p0_leaving m_maps m_tables m_words m_blank m_queue_2 d_maps d_tables d_words d_blank d_queue young dropped leaving ren)) cf hK hN hA (c_S_pointer l D cI cZ h_p0_m h_p0_m_maps h_p0_m_tables h_p0_m_words h_p0_m_blank h_p0_m_queue m_maps m_tables m_words m_blank m_queue_2 x1 (x2 / (nI 8)) r30 h30) k_V_114 ⟨rfl, rfl, by decide, by decide⟩ 0 rfl rfl rfl hl hP hD hS [1, 2, 3, 4, 5, 6] [0, 7, 8, 9, 10, 11, 12, 13, 14, 15] [0, 10, 11, 12, 13, 14, 15, 1, 2, 3, 4, 5, 6, 7, 8, 9] rfl rfl rfl (by decide) rfl rfl rfl rfl rfl (Nat.le_of_ble_eq_true rfl) rfl d_V_write_30 (fun H locs hP hD hS => ?_)
      refine lv_if_ne hx hb d_V_write_33 rfl (fun hc => ?_) (fun hc => ?_)
      · rw [if_neg hc] at h
        exact w_V_write_92 h_p0 h_p0_m h_p0_m_maps h_p0_m_tables h_p0_m_words h_p0_m_blank h_p0_m_queue h_p0_d h_p0_d_maps h_p0_d_tables h_p0_d_words h_p0_d_blank h_p0_d_queue h_p0_young h_p0_dropped h_p0_leaving F m_blank m_maps' m_tables' m_words' m_queue' d_maps' d_tables' d_words' d_blank' d_queue' young' dropped' leaving' ren' r ⟨cf, hr, hlk, hK, hN, hA⟩ x1 x2 x3 (x2 / (nI 8)) m_maps m_tables m_words m_queue_2 d_maps d_tables d_words d_blank d_queue young dropped leaving ren h H locs ls (lv_sub hl [1, 2, 3, 4, 0] rfl) hP hD hS
      · rw [if_pos hc] at h
        refine lv_aload_n hx hb d_V_write_36 rfl (lv_at hl 1 rfl) ?_
        refine lv_iload_n hx hb d_V_write_37 rfl (lv_at hl 2 rfl) ?_
        refine lv_iload hx hb d_V_write_38 (lv_at hl 0 rfl) ?_
        obtain ⟨r40, h40, h⟩ := bd_some h
        refine wk_Vi (As := [.int x1, .int (x2 / (nI 8))]) (rest := []) (wc := (w_V cI cZ h_p0 h_p0_m h_p0_m_maps h_p0_m_tables h_p0_m_words h_p0_m_blank h_p0_m_queue h_p0_d h_p0_d_maps h_p0_d_tables h_p0_d_words h_p0_d_blank h_p0_d_queue h_p0_young h_p0_dropped h_p0_leaving m_maps m_tables m_words m_blank m_queue_2 d_maps d_tables d_words d_blank d_queue young dropped leaving ren)) (w1 := (w_V cI cZ h_p0 h_p0_m h_p0_m_maps h_p0_m_tables h_p0_m_words h_p0_m_blank h_p0_m_queue h_p0_d h_p0_d_maps h_p0_d_tables h_p0_d_words h_p0_d_blank h_p0_d_queue h_p0_young h_p0_dropped h_p0_leaving m_maps m_tables m_words m_blank m_queue_2 d_maps d_tables d_words d_blank d_queue young dropped leaving ren)) (wr := []) (wz := (w_V cI cZ h_p0 h_p0_m h_p0_m_maps h_p0_m_tables h_p0_m_words h_p0_m_blank h_p0_m_queue h_p0_d h_p0_d_maps h_p0_d_tables h_p0_d_words h_p0_d_blank h_p0_d_queue h_p0_young h_p0_dropped h_p0_leaving m_maps m_tables m_words m_blank m_queue_2 d_maps d_tables d_words d_blank d_queue young dropped leaving ren)) cf hK hN hA (c_V_blockForPointer l D cI cZ h_p0 h_p0_m h_p0_m_maps h_p0_m_tables h_p0_m_words h_p0_m_blank h_p0_m_queue h_p0_d h_p0_d_maps h_p0_d_tables h_p0_d_words h_p0_d_blank h_p0_d_queue h_p0_young h_p0_dropped h_p0_leaving F m_maps m_tables m_words m_blank m_queue_2 d_maps d_tables d_words d_blank d_queue young dropped leaving ren x1 (x2 / (nI 8)) r40 h40) k_V_117 ⟨rfl, rfl, by decide, by decide⟩ 1 rfl rfl rfl hl hP hD hS [0, 1, 2, 3, 4, 5, 6, 7, 8, 9, 10, 11, 12, 13, 14, 15] [] [0, 1, 2, 3, 4, 5, 6, 7, 8, 9, 10, 11, 12, 13, 14, 15] rfl rfl rfl (by decide) rfl rfl rfl rfl rfl (Nat.le_of_ble_eq_true rfl) rfl d_V_write_40 (fun H locs hP hD hS => ?_)
        refine lv_istore (lv' := [(5, .int r40), (4, .int (x2 / (nI 8))), (0, .ref h_p0), (1, .int x1), (2, .int x2), (3, .int x3)]) hx hb d_V_write_43 hl (by decide) rfl (fun ls hl => ?_)
        refine lv_iload hx hb d_V_write_45 (lv_at hl 0 rfl) ?_
        refine lv_iconst (v := (-1)) hx hb d_V_write_47 (by decide) ?_
        refine lv_icmp_ne hx hb d_V_write_48 rfl (fun hc => ?_) (fun hc => ?_)
        · rw [if_neg hc] at h
          exact w_V_write_65 h_p0 h_p0_m h_p0_m_maps h_p0_m_tables h_p0_m_words h_p0_m_blank h_p0_m_queue h_p0_d h_p0_d_maps h_p0_d_tables h_p0_d_words h_p0_d_blank h_p0_d_queue h_p0_young h_p0_dropped h_p0_leaving F m_blank m_maps' m_tables' m_words' m_queue' d_maps' d_tables' d_words' d_blank' d_queue' young' dropped' leaving' ren' r ⟨cf, hr, hlk, hK, hN, hA⟩ x1 x2 x3 (x2 / (nI 8)) r40 m_maps m_tables m_words m_queue_2 d_maps d_tables d_words d_blank d_queue young dropped leaving ren h H locs ls (lv_sub hl [2, 3, 4, 5, 1, 0] rfl) hP hD hS
        · rw [if_pos hc] at h
          refine lv_aload_n hx hb d_V_write_51 rfl (lv_at hl 2 rfl) ?_
          obtain ⟨⟨r52, m_maps_52, m_tables_52, m_queue_52, d_maps_52, d_tables_52, d_words_52, d_blank_52, d_queue_52, young_52, dropped_52, leaving_52, ren_52⟩, h52, h⟩ := bd_some h
          dsimp only at h
          refine wk_Vi (As := []) (rest := []) (wc := (w_V cI cZ h_p0 h_p0_m h_p0_m_maps h_p0_m_tables h_p0_m_words h_p0_m_blank h_p0_m_queue h_p0_d h_p0_d_maps h_p0_d_tables h_p0_d_words h_p0_d_blank h_p0_d_queue h_p0_young h_p0_dropped h_p0_leaving m_maps m_tables m_words m_blank m_queue_2 d_maps d_tables d_words d_blank d_queue young dropped leaving ren)) (w1 := (w_V cI cZ h_p0 h_p0_m h_p0_m_maps h_p0_m_tables h_p0_m_words h_p0_m_blank h_p0_m_queue h_p0_d h_p0_d_maps h_p0_d_tables h_p0_d_words h_p0_d_blank h_p0_d_queue h_p0_young h_p0_dropped h_p0_leaving m_maps_52 m_tables_52 m_words m_blank m_queue_52 d_maps_52 d_tables_52 d_words_52 d_blank_52 d_queue_52 young_52 dropped_52 leaving_52 ren_52)) (wr := []) (wz := (w_V cI cZ h_p0 h_p0_m h_p0_m_maps h_p0_m_tables h_p0_m_words h_p0_m_blank h_p0_m_queue h_p0_d h_p0_d_maps h_p0_d_tables h_p0_d_words h_p0_d_blank h_p0_d_queue h_p0_young h_p0_dropped h_p0_leaving m_maps_52 m_tables_52 m_words m_blank m_queue_52 d_maps_52 d_tables_52 d_words_52 d_blank_52 d_queue_52 young_52 dropped_52 leaving_52 ren_52)) cf hK hN hA (c_V_makeAlike l D cI cZ h_p0 h_p0_m h_p0_m_maps h_p0_m_tables h_p0_m_words h_p0_m_blank h_p0_m_queue h_p0_d h_p0_d_maps h_p0_d_tables h_p0_d_words h_p0_d_blank h_p0_d_queue h_p0_young h_p0_dropped h_p0_leaving F m_maps m_tables m_words m_blank m_queue_2 d_maps d_tables d_words d_blank d_queue young dropped leaving ren m_maps_52 m_tables_52 m_queue_52 d_maps_52 d_tables_52 d_words_52 d_blank_52 d_queue_52 young_52 dropped_52 leaving_52 ren_52 r52 h52) k_V_48 ⟨rfl, rfl, by decide, by decide⟩ 1 rfl rfl rfl hl hP hD hS [0, 1, 2, 3, 4, 5, 6, 7, 8, 9, 10, 11, 12, 13, 14, 15] [] [0, 1, 2, 3, 4, 5, 6, 7, 8, 9, 10, 11, 12, 13, 14, 15] rfl rfl rfl (by decide) rfl rfl rfl rfl rfl (Nat.le_of_ble_eq_true rfl) rfl d_V_write_52 (fun H locs hP hD hS => ?_)
          refine lv_pop hx hb d_V_write_55 rfl ?_
          refine lv_aload_n hx hb d_V_write_56 rfl (lv_at hl 2 rfl) ?_
          refine lv_iload_n hx hb d_V_write_57 rfl (lv_at hl 3 rfl) ?_
          refine lv_iload hx hb d_V_write_58 (lv_at hl 1 rfl) ?_
          obtain ⟨r60, h60, h⟩ := bd_some h
          refine wk_Vi (As := [.int x1, .int (x2 / (nI 8))]) (rest := []) (wc := (w_V cI cZ h_p0 h_p0_m h_p0_m_maps h_p0_m_tables h_p0_m_words h_p0_m_blank h_p0_m_queue h_p0_d h_p0_d_maps h_p0_d_tables h_p0_d_words h_p0_d_blank h_p0_d_queue h_p0_young h_p0_dropped h_p0_leaving m_maps_52 m_tables_52 m_words m_blank m_queue_52 d_maps_52 d_tables_52 d_words_52 d_blank_52 d_queue_52 young_52 dropped_52 leaving_52 ren_52)) (w1 := (w_V cI cZ h_p0 h_p0_m h_p0_m_maps h_p0_m_tables h_p0_m_words h_p0_m_blank h_p0_m_queue h_p0_d h_p0_d_maps h_p0_d_tables h_p0_d_words h_p0_d_blank h_p0_d_queue h_p0_young h_p0_dropped h_p0_leaving m_maps_52 m_tables_52 m_words m_blank m_queue_52 d_maps_52 d_tables_52 d_words_52 d_blank_52 d_queue_52 young_52 dropped_52 leaving_52 ren_52)) (wr := []) (wz := (w_V cI cZ h_p0 h_p0_m h_p0_m_maps h_p0_m_tables h_p0_m_words h_p0_m_blank h_p0_m_queue h_p0_d h_p0_d_maps h_p0_d_tables h_p0_d_words h_p0_d_blank h_p0_d_queue h_p0_young h_p0_dropped h_p0_leaving m_maps_52 m_tables_52 m_words m_blank m_queue_52 d_maps_52 d_tables_52 d_words_52 d_blank_52 d_queue_52 young_52 dropped_52 leaving_52 ren_52)) cf hK hN hA (c_V_blockForPointer l D cI cZ h_p0 h_p0_m h_p0_m_maps h_p0_m_tables h_p0_m_words h_p0_m_blank h_p0_m_queue h_p0_d h_p0_d_maps h_p0_d_tables h_p0_d_words h_p0_d_blank h_p0_d_queue h_p0_young h_p0_dropped h_p0_leaving F m_maps_52 m_tables_52 m_words m_blank m_queue_52 d_maps_52 d_tables_52 d_words_52 d_blank_52 d_queue_52 young_52 dropped_52 leaving_52 ren_52 x1 (x2 / (nI 8)) r60 h60) k_V_117 ⟨rfl, rfl, by decide, by decide⟩ 1 rfl rfl rfl hl hP hD hS [0, 1, 2, 3, 4, 5, 6, 7, 8, 9, 10, 11, 12, 13, 14, 15] [] [0, 1, 2, 3, 4, 5, 6, 7, 8, 9, 10, 11, 12, 13, 14, 15] rfl rfl rfl (by decide) rfl rfl rfl rfl rfl (Nat.le_of_ble_eq_true rfl) rfl d_V_write_60 (fun H locs hP hD hS => ?_)
          refine lv_istore (lv' := [(5, .int r60), (4, .int (x2 / (nI 8))), (0, .ref h_p0), (1, .int x1), (2, .int x2), (3, .int x3)]) hx hb d_V_write_63 hl (by decide) rfl (fun ls hl => ?_)
          exact w_V_write_65 h_p0 h_p0_m h_p0_m_maps h_p0_m_tables h_p0_m_words h_p0_m_blank h_p0_m_queue h_p0_d h_p0_d_maps h_p0_d_tables h_p0_d_words h_p0_d_blank h_p0_d_queue h_p0_young h_p0_dropped h_p0_leaving F m_blank m_maps' m_tables' m_words' m_queue' d_maps' d_tables' d_words' d_blank' d_queue' young' dropped' leaving' ren' r ⟨cf, hr, hlk, hK, hN, hA⟩ x1 x2 x3 (x2 / (nI 8)) r60 m_maps_52 m_tables_52 m_words m_queue_52 d_maps_52 d_tables_52 d_words_52 d_blank_52 d_queue_52 young_52 dropped_52 leaving_52 ren_52 h H locs ls (lv_sub hl [2, 3, 4, 5, 1, 0] rfl) hP hD hS
    · rw [if_pos hc] at h
      refine lv_iconst (v := (-1)) hx hb d_V_write_15 (by decide) ?_
      cases h
      exact sc_iret cf hr hlk hK hP hD hS d_V_write_16
set_option maxHeartbeats 4000000 in
set_option maxRecDepth 100000 in
theorem c_R_at (l : Launch) (D : va_G) (cI cZ : ClassId) (z : Nat) (x0 : Int32) (x1 : Int32) (r : Int32) (h : s_R_at x0 x1 = some r) : sc_i l y_R_at (o_R_at :: wA) rm_R_at D cI cZ [.int x0, .int x1] [] [] r := by
  refine sc_i_of (cc := b_R_at) (maxL := 2) (ret := (some .int)) (by decide) rfl (Nat.le_of_ble_eq_true rfl) ?_
  intro p e s m below meth c A cf hr hlk hK hN hA H locs ls hl hP hD hS
  have hx := cf.1
  have hb := cf.2.1
  have hown := cf.2.2.2.1
  have ht : ∀ w ∈ wA, w.before _ s = true := fun w h => cf.2.2.2.2 w (List.mem_cons_of_mem _ h)
  unfold s_R_at at h
  have hl : lv_has ls 2 [(0, .int x0), (1, .int x1)] := hl
  refine lv_iload_n hx hb d_R_at_0 rfl (lv_at hl 0 rfl) ?_
  refine lv_bipush (v := (nI 6)) hx hb d_R_at_1 (by decide) ?_
  refine lv_idiv hx hb d_R_at_3 (by decide) ?_
  refine lv_bipush (v := (nI 12)) hx hb d_R_at_4 (by decide) ?_
  refine lv_imul hx hb d_R_at_6 ?_
  refine lv_iconst (v := (nI 1)) hx hb d_R_at_7 (by decide) ?_
  refine lv_iadd hx hb d_R_at_8 ?_
  refine lv_bipush (v := (nI 30)) hx hb d_R_at_9 (by decide) ?_
  refine lv_imul hx hb d_R_at_11 ?_
  refine lv_iload_n hx hb d_R_at_12 rfl (lv_at hl 0 rfl) ?_
  refine lv_bipush (v := (nI 6)) hx hb d_R_at_13 (by decide) ?_
  refine lv_irem hx hb d_R_at_15 (by decide) ?_
  refine lv_iconst (v := (nI 5)) hx hb d_R_at_16 (by decide) ?_
  refine lv_imul hx hb d_R_at_17 ?_
  refine lv_iadd hx hb d_R_at_18 ?_
  refine lv_iload_n hx hb d_R_at_19 rfl (lv_at hl 1 rfl) ?_
  refine lv_iadd hx hb d_R_at_20 ?_
  cases h
  exact sc_iret cf hr hlk hK hP hD hS d_R_at_21
set_option maxHeartbeats 4000000 in
set_option maxRecDepth 100000 in
theorem w_R_owner_10 {p : Program} {l : Launch} {e : Env} {s : State} {m : MethodId} {args : Array Value} {below : List Frame} {meth : Method} {c : Code} {D : va_G} {cI cZ : ClassId} {A : Nat → Prop} (h_p0 h_p0_m h_p0_d h_p0_fresh h_p0_young h_p0_dropped h_p0_released h_p0_owed h_p0_counted h_p0_inMemory h_p0_onDisk h_p0_thn : Nat) (F : Nat) (mem : (Nat → Int32)) (dsk : (Nat → Int32)) (fresh : (Nat → Int32)) (young : (Nat → Int32)) (dropped : (Nat → Int32)) (released : (Nat → Int32)) (owed : (Nat → Int32)) (counted : (Nat → Int32)) (inMemory : (Nat → Int32)) (onDisk : (Nat → Int32)) (thn : (Nat → Int32)) (moved : Int32) (r : Int32) (k2 : Int32 → Int32 → Option (Int32)) (cx : cx_ok p s m args meth c b_R_owner 4 o_R_owner "OrderedVolumeModel" (some .int) D cI cZ A) (h2 : (∀ (x1 : Int32) (x2 : Int32), k2 x1 x2 = some r → wk_G p l e rm_R_owner s m args below meth c (sc_Qi below args s D cI cZ A (w_R cI cZ h_p0 h_p0_m h_p0_d h_p0_fresh h_p0_young h_p0_dropped h_p0_released h_p0_owed h_p0_counted h_p0_inMemory h_p0_onDisk h_p0_thn mem dsk fresh young dropped released owed counted inMemory onDisk thn moved) r) D A 4 2 [] [(0, .ref h_p0), (1, .int x1), (2, .int x2)] (w_R cI cZ h_p0 h_p0_m h_p0_d h_p0_fresh h_p0_young h_p0_dropped h_p0_released h_p0_owed h_p0_counted h_p0_inMemory h_p0_onDisk h_p0_thn mem dsk fresh young dropped released owed counted inMemory onDisk thn moved))) : ∀ (n : Nat) (x1 : Int32) (x2 : Int32) (x3 : Int32), s_R_owner_10 F mem k2 n x1 x2 x3 = some r → wk_G p l e rm_R_owner s m args below meth c (sc_Qi below args s D cI cZ A (w_R cI cZ h_p0 h_p0_m h_p0_d h_p0_fresh h_p0_young h_p0_dropped h_p0_released h_p0_owed h_p0_counted h_p0_inMemory h_p0_onDisk h_p0_thn mem dsk fresh young dropped released owed counted inMemory onDisk thn moved) r) D A 4 10 [] [(0, .ref h_p0), (1, .int x1), (2, .int x2), (3, .int x3)] (w_R cI cZ h_p0 h_p0_m h_p0_d h_p0_fresh h_p0_young h_p0_dropped h_p0_released h_p0_owed h_p0_counted h_p0_inMemory h_p0_onDisk h_p0_thn mem dsk fresh young dropped released owed counted inMemory onDisk thn moved) := by
  obtain ⟨cf, hr, hlk, hK, hN, hA⟩ := cx
  have hx := cf.1
  have hb := cf.2.1
  have hown := cf.2.2.2.1
  have ht : ∀ w ∈ wA, w.before args s = true := fun w h => cf.2.2.2.2 w (List.mem_cons_of_mem _ h)
  intro n
  induction n with
  | zero => intro x1 x2 x3 h; cases (show (none : Option (Int32)) = some _ from h)
  | succ n ih =>
    intro x1 x2 x3 h H locs ls hl hP hD hS
    unfold s_R_owner_10 at h
    refine lv_iload_n hx hb d_R_owner_10 rfl (lv_at hl 3 rfl) ?_
    refine lv_iconst (v := (nI 5)) hx hb d_R_owner_11 (by decide) ?_
    refine lv_icmp_ge hx hb d_R_owner_12 rfl (fun hc => ?_) (fun hc => ?_)
    · rw [if_pos hc] at h
      refine lv_iinc (k := 2) (v := (x2 + (nI 1))) (lv' := [(2, .int (x2 + (nI 1))), (0, .ref h_p0), (1, .int x1), (3, .int x3)]) hx hb d_R_owner_46 hl rfl rfl (by decide) rfl (fun ls hl => ?_)
      refine lv_goto hx hb d_R_owner_49 rfl ?_
      exact h2 x1 (x2 + (nI 1)) h H locs ls (lv_sub hl [1, 2, 0] rfl) hP hD hS
    · rw [if_neg hc] at h
      refine lv_aload_n hx hb d_R_owner_15 rfl (lv_at hl 0 rfl) ?_
      refine va_get (D := D) (ci := 2) (v := .ref h_p0_m) (C := R_R) (T := F_R) (N := 12) hx hb ht in_R hown hK hP 0 rfl rfl 0 (by decide) (ht _ f_R_7) (fun _ h9 => h9) rfl d_R_owner_16 ?_
      refine lv_iload_n hx hb d_R_owner_19 rfl (lv_at hl 2 rfl) ?_
      refine lv_iload_n hx hb d_R_owner_20 rfl (lv_at hl 3 rfl) ?_
      obtain ⟨r21, h21, h⟩ := bd_some h
      refine wk_Si (As := [.int x2, .int x3]) (rest := [.ref h_p0_m]) (wc := []) (w1 := []) (wr := [(h_p0, .inr (2, [.ref h_p0_m, .ref h_p0_d, .ref h_p0_fresh, .ref h_p0_young, .ref h_p0_dropped, .ref h_p0_released, .ref h_p0_owed, .ref h_p0_counted, .ref h_p0_inMemory, .ref h_p0_onDisk, .ref h_p0_thn, .int moved])), (h_p0_m, .inl (cI, 1080, .inl mem)), (h_p0_d, .inl (cI, 1080, .inl dsk)), (h_p0_fresh, .inl (cZ, 36, .inl fresh)), (h_p0_young, .inl (cZ, 288, .inl young)), (h_p0_dropped, .inl (cI, 36, .inl dropped)), (h_p0_released, .inl (cZ, 18, .inl released)), (h_p0_owed, .inl (cI, 18, .inl owed)), (h_p0_counted, .inl (cI, 18, .inl counted)), (h_p0_inMemory, .inl (cZ, 18, .inl inMemory)), (h_p0_onDisk, .inl (cZ, 18, .inl onDisk)), (h_p0_thn, .inl (cZ, 18, .inl thn))]) (wz := (w_R cI cZ h_p0 h_p0_m h_p0_d h_p0_fresh h_p0_young h_p0_dropped h_p0_released h_p0_owed h_p0_counted h_p0_inMemory h_p0_onDisk h_p0_thn mem dsk fresh young dropped released owed counted inMemory onDisk thn moved)) cf hK hN hA (c_R_at l D cI cZ 0 x2 x3 r21 h21) k_R_44 ⟨rfl, rfl, by decide, by decide⟩ hl hP hD hS [] [0, 1, 2, 3, 4, 5, 6, 7, 8, 9, 10, 11] [0, 1, 2, 3, 4, 5, 6, 7, 8, 9, 10, 11] rfl rfl rfl (by decide) rfl rfl rfl rfl rfl (Nat.le_of_ble_eq_true rfl) rfl d_R_owner_21 (fun H locs hP hD hS => ?_)
      obtain ⟨hin, h⟩ := gr_some h
      refine va_iald hx hb hK hP 1 0 rfl rfl hin d_R_owner_24 ?_
      generalize mem r21.toNatClampNeg = v24 at h ⊢
      refine lv_iload_n hx hb d_R_owner_25 rfl (lv_at hl 1 rfl) ?_
      refine lv_icmp_ne hx hb d_R_owner_26 rfl (fun hc => ?_) (fun hc => ?_)
      · rw [if_neg hc] at h
        refine lv_iinc (k := 3) (v := (x3 + (nI 1))) (lv' := [(3, .int (x3 + (nI 1))), (0, .ref h_p0), (1, .int x1), (2, .int x2)]) hx hb d_R_owner_40 hl rfl rfl (by decide) rfl (fun ls hl => ?_)
        refine lv_goto hx hb d_R_owner_43 rfl ?_
        exact ih x1 x2 (x3 + (nI 1)) h H locs ls (lv_sub hl [1, 2, 3, 0] rfl) hP hD hS
      · rw [if_pos hc] at h
        refine lv_aload_n hx hb d_R_owner_29 rfl (lv_at hl 0 rfl) ?_
        refine va_get (D := D) (ci := 2) (v := .ref h_p0_m) (C := R_R) (T := F_R) (N := 12) hx hb ht in_R hown hK hP 0 rfl rfl 0 (by decide) (ht _ f_R_7) (fun _ h9 => h9) rfl d_R_owner_30 ?_
        refine lv_iload_n hx hb d_R_owner_33 rfl (lv_at hl 2 rfl) ?_
        refine lv_iconst (v := (nI 0)) hx hb d_R_owner_34 (by decide) ?_
        obtain ⟨r35, h35, h⟩ := bd_some h
        refine wk_Si (As := [.int x2, .int (nI 0)]) (rest := [.ref h_p0_m]) (wc := []) (w1 := []) (wr := [(h_p0, .inr (2, [.ref h_p0_m, .ref h_p0_d, .ref h_p0_fresh, .ref h_p0_young, .ref h_p0_dropped, .ref h_p0_released, .ref h_p0_owed, .ref h_p0_counted, .ref h_p0_inMemory, .ref h_p0_onDisk, .ref h_p0_thn, .int moved])), (h_p0_m, .inl (cI, 1080, .inl mem)), (h_p0_d, .inl (cI, 1080, .inl dsk)), (h_p0_fresh, .inl (cZ, 36, .inl fresh)), (h_p0_young, .inl (cZ, 288, .inl young)), (h_p0_dropped, .inl (cI, 36, .inl dropped)), (h_p0_released, .inl (cZ, 18, .inl released)), (h_p0_owed, .inl (cI, 18, .inl owed)), (h_p0_counted, .inl (cI, 18, .inl counted)), (h_p0_inMemory, .inl (cZ, 18, .inl inMemory)), (h_p0_onDisk, .inl (cZ, 18, .inl onDisk)), (h_p0_thn, .inl (cZ, 18, .inl thn))]) (wz := (w_R cI cZ h_p0 h_p0_m h_p0_d h_p0_fresh h_p0_young h_p0_dropped h_p0_released h_p0_owed h_p0_counted h_p0_inMemory h_p0_onDisk h_p0_thn mem dsk fresh young dropped released owed counted inMemory onDisk thn moved)) cf hK hN hA (c_R_at l D cI cZ 0 x2 (nI 0) r35 h35) k_R_44 ⟨rfl, rfl, by decide, by decide⟩ hl hP hD hS [] [0, 1, 2, 3, 4, 5, 6, 7, 8, 9, 10, 11] [0, 1, 2, 3, 4, 5, 6, 7, 8, 9, 10, 11] rfl rfl rfl (by decide) rfl rfl rfl rfl rfl (Nat.le_of_ble_eq_true rfl) rfl d_R_owner_35 (fun H locs hP hD hS => ?_)
        obtain ⟨hin, h⟩ := gr_some h
        refine va_iald hx hb hK hP 1 0 rfl rfl hin d_R_owner_38 ?_
        generalize mem r35.toNatClampNeg = v38 at h ⊢
        cases h
        exact sc_iret cf hr hlk hK hP hD hS d_R_owner_39
set_option maxHeartbeats 4000000 in
set_option maxRecDepth 100000 in
theorem w_R_owner_2 {p : Program} {l : Launch} {e : Env} {s : State} {m : MethodId} {args : Array Value} {below : List Frame} {meth : Method} {c : Code} {D : va_G} {cI cZ : ClassId} {A : Nat → Prop} (h_p0 h_p0_m h_p0_d h_p0_fresh h_p0_young h_p0_dropped h_p0_released h_p0_owed h_p0_counted h_p0_inMemory h_p0_onDisk h_p0_thn : Nat) (F : Nat) (mem : (Nat → Int32)) (dsk : (Nat → Int32)) (fresh : (Nat → Int32)) (young : (Nat → Int32)) (dropped : (Nat → Int32)) (released : (Nat → Int32)) (owed : (Nat → Int32)) (counted : (Nat → Int32)) (inMemory : (Nat → Int32)) (onDisk : (Nat → Int32)) (thn : (Nat → Int32)) (moved : Int32) (r : Int32) (cx : cx_ok p s m args meth c b_R_owner 4 o_R_owner "OrderedVolumeModel" (some .int) D cI cZ A) : ∀ (n : Nat) (x1 : Int32) (x2 : Int32), s_R_owner_2 F mem n x1 x2 = some r → wk_G p l e rm_R_owner s m args below meth c (sc_Qi below args s D cI cZ A (w_R cI cZ h_p0 h_p0_m h_p0_d h_p0_fresh h_p0_young h_p0_dropped h_p0_released h_p0_owed h_p0_counted h_p0_inMemory h_p0_onDisk h_p0_thn mem dsk fresh young dropped released owed counted inMemory onDisk thn moved) r) D A 4 2 [] [(0, .ref h_p0), (1, .int x1), (2, .int x2)] (w_R cI cZ h_p0 h_p0_m h_p0_d h_p0_fresh h_p0_young h_p0_dropped h_p0_released h_p0_owed h_p0_counted h_p0_inMemory h_p0_onDisk h_p0_thn mem dsk fresh young dropped released owed counted inMemory onDisk thn moved) := by
  obtain ⟨cf, hr, hlk, hK, hN, hA⟩ := cx
  have hx := cf.1
  have hb := cf.2.1
  have hown := cf.2.2.2.1
  have ht : ∀ w ∈ wA, w.before args s = true := fun w h => cf.2.2.2.2 w (List.mem_cons_of_mem _ h)
  intro n
  induction n with
  | zero => intro x1 x2 h; cases (show (none : Option (Int32)) = some _ from h)
  | succ n ih =>
    intro x1 x2 h H locs ls hl hP hD hS
    unfold s_R_owner_2 at h
    refine lv_iload_n hx hb d_R_owner_2 rfl (lv_at hl 2 rfl) ?_
    refine lv_bipush (v := (nI 18)) hx hb d_R_owner_3 (by decide) ?_
    refine lv_icmp_ge hx hb d_R_owner_5 rfl (fun hc => ?_) (fun hc => ?_)
    · rw [if_pos hc] at h
      refine lv_iconst (v := (nI 0)) hx hb d_R_owner_52 (by decide) ?_
      cases h
      exact sc_iret cf hr hlk hK hP hD hS d_R_owner_53
    · rw [if_neg hc] at h
      refine lv_iconst (v := (nI 2)) hx hb d_R_owner_8 (by decide) ?_
      refine lv_istore_n (lv' := [(3, .int (nI 2)), (0, .ref h_p0), (1, .int x1), (2, .int x2)]) hx hb d_R_owner_9 rfl hl (by decide) rfl (fun ls hl => ?_)
      exact w_R_owner_10 h_p0 h_p0_m h_p0_d h_p0_fresh h_p0_young h_p0_dropped h_p0_released h_p0_owed h_p0_counted h_p0_inMemory h_p0_onDisk h_p0_thn F mem dsk fresh young dropped released owed counted inMemory onDisk thn moved r _ ⟨cf, hr, hlk, hK, hN, hA⟩ ih F x1 x2 (nI 2) h H locs ls (lv_sub hl [1, 2, 3, 0] rfl) hP hD hS
set_option maxHeartbeats 4000000 in
set_option maxRecDepth 100000 in
theorem c_R_owner (l : Launch) (D : va_G) (cI cZ : ClassId) (h_p0 h_p0_m h_p0_d h_p0_fresh h_p0_young h_p0_dropped h_p0_released h_p0_owed h_p0_counted h_p0_inMemory h_p0_onDisk h_p0_thn : Nat) (F : Nat) (mem : (Nat → Int32)) (dsk : (Nat → Int32)) (fresh : (Nat → Int32)) (young : (Nat → Int32)) (dropped : (Nat → Int32)) (released : (Nat → Int32)) (owed : (Nat → Int32)) (counted : (Nat → Int32)) (inMemory : (Nat → Int32)) (onDisk : (Nat → Int32)) (thn : (Nat → Int32)) (moved : Int32) (x1 : Int32) (r : Int32) (h : s_R_owner F mem x1 = some r) : sc_i l y_R_owner (o_R_owner :: wA) rm_R_owner D cI cZ [.ref h_p0, .int x1] (w_R cI cZ h_p0 h_p0_m h_p0_d h_p0_fresh h_p0_young h_p0_dropped h_p0_released h_p0_owed h_p0_counted h_p0_inMemory h_p0_onDisk h_p0_thn mem dsk fresh young dropped released owed counted inMemory onDisk thn moved) (w_R cI cZ h_p0 h_p0_m h_p0_d h_p0_fresh h_p0_young h_p0_dropped h_p0_released h_p0_owed h_p0_counted h_p0_inMemory h_p0_onDisk h_p0_thn mem dsk fresh young dropped released owed counted inMemory onDisk thn moved) r := by
  refine sc_i_of (cc := b_R_owner) (maxL := 4) (ret := (some .int)) (by decide) rfl (Nat.le_of_ble_eq_true rfl) ?_
  intro p e s m below meth c A cf hr hlk hK hN hA H locs ls hl hP hD hS
  have hx := cf.1
  have hb := cf.2.1
  have hown := cf.2.2.2.1
  have ht : ∀ w ∈ wA, w.before _ s = true := fun w h => cf.2.2.2.2 w (List.mem_cons_of_mem _ h)
  unfold s_R_owner at h
  have hl : lv_has ls 4 [(0, .ref h_p0), (1, .int x1)] := hl
  refine lv_iconst (v := (nI 0)) hx hb d_R_owner_0 (by decide) ?_
  refine lv_istore_n (lv' := [(2, .int (nI 0)), (0, .ref h_p0), (1, .int x1)]) hx hb d_R_owner_1 rfl hl (by decide) rfl (fun ls hl => ?_)
  exact w_R_owner_2 h_p0 h_p0_m h_p0_d h_p0_fresh h_p0_young h_p0_dropped h_p0_released h_p0_owed h_p0_counted h_p0_inMemory h_p0_onDisk h_p0_thn F mem dsk fresh young dropped released owed counted inMemory onDisk thn moved r ⟨cf, hr, hlk, hK, hN, hA⟩ F x1 (nI 0) h H locs ls (lv_sub hl [1, 2, 0] rfl) hP hD hS
set_option maxHeartbeats 4000000 in
set_option maxRecDepth 100000 in
theorem c_R_size (l : Launch) (D : va_G) (cI cZ : ClassId) (z : Nat) (x0 : Int32) (r : Int32) (h : s_R_size x0 = some r) : sc_i l y_R_size (o_R_size :: wA) rm_R_size D cI cZ [.int x0] [] [] r := by
  refine sc_i_of (cc := b_R_size) (maxL := 1) (ret := (some .int)) (by decide) rfl (Nat.le_of_ble_eq_true rfl) ?_
  intro p e s m below meth c A cf hr hlk hK hN hA H locs ls hl hP hD hS
  have hx := cf.1
  have hb := cf.2.1
  have hown := cf.2.2.2.1
  have ht : ∀ w ∈ wA, w.before _ s = true := fun w h => cf.2.2.2.2 w (List.mem_cons_of_mem _ h)
  unfold s_R_size at h
  have hl : lv_has ls 1 [(0, .int x0)] := hl
  refine lv_iload_n hx hb d_R_size_0 rfl (lv_at hl 0 rfl) ?_
  refine lv_bipush (v := (nI 12)) hx hb d_R_size_1 (by decide) ?_
  refine lv_irem hx hb d_R_size_3 (by decide) ?_
  refine lv_if_ne hx hb d_R_size_4 rfl (fun hc => ?_) (fun hc => ?_)
  · rw [if_neg hc] at h
    refine lv_iload_n hx hb d_R_size_12 rfl (lv_at hl 0 rfl) ?_
    refine lv_bipush (v := (nI 12)) hx hb d_R_size_13 (by decide) ?_
    refine lv_irem hx hb d_R_size_15 (by decide) ?_
    refine lv_iconst (v := (nI 1)) hx hb d_R_size_16 (by decide) ?_
    refine lv_icmp_ne hx hb d_R_size_17 rfl (fun hc => ?_) (fun hc => ?_)
    · rw [if_neg hc] at h
      refine lv_bipush (v := (nI 8)) hx hb d_R_size_25 (by decide) ?_
      cases h
      exact sc_iret cf hr hlk hK hP hD hS d_R_size_27
    · rw [if_pos hc] at h
      refine lv_bipush (v := (nI 30)) hx hb d_R_size_20 (by decide) ?_
      refine lv_goto hx hb d_R_size_22 rfl ?_
      cases h
      exact sc_iret cf hr hlk hK hP hD hS d_R_size_27
  · rw [if_pos hc] at h
    refine lv_bipush (v := (nI 16)) hx hb d_R_size_7 (by decide) ?_
    refine lv_goto hx hb d_R_size_9 rfl ?_
    cases h
    exact sc_iret cf hr hlk hK hP hD hS d_R_size_27
set_option maxHeartbeats 4000000 in
set_option maxRecDepth 100000 in
theorem w_R_alike_20 {p : Program} {l : Launch} {e : Env} {s : State} {m : MethodId} {args : Array Value} {below : List Frame} {meth : Method} {c : Code} {D : va_G} {cI cZ : ClassId} {A : Nat → Prop} (h_p0 h_p0_m h_p0_d h_p0_fresh h_p0_young h_p0_dropped h_p0_released h_p0_owed h_p0_counted h_p0_inMemory h_p0_onDisk h_p0_thn : Nat) (F : Nat) (mem : (Nat → Int32)) (dsk : (Nat → Int32)) (fresh : (Nat → Int32)) (young : (Nat → Int32)) (dropped : (Nat → Int32)) (released : (Nat → Int32)) (owed : (Nat → Int32)) (counted : (Nat → Int32)) (inMemory : (Nat → Int32)) (onDisk : (Nat → Int32)) (thn : (Nat → Int32)) (moved : Int32) (r : Int32) (cx : cx_ok p s m args meth c b_R_alike 3 o_R_alike "OrderedVolumeModel" (some .boolean) D cI cZ A) : ∀ (n : Nat) (x1 : Int32) (x2 : Int32), s_R_alike_20 F mem dsk fresh n x1 x2 = some r → wk_G p l e rm_R_alike s m args below meth c (sc_Qi below args s D cI cZ A (w_R cI cZ h_p0 h_p0_m h_p0_d h_p0_fresh h_p0_young h_p0_dropped h_p0_released h_p0_owed h_p0_counted h_p0_inMemory h_p0_onDisk h_p0_thn mem dsk fresh young dropped released owed counted inMemory onDisk thn moved) r) D A 3 20 [] [(0, .ref h_p0), (1, .int x1), (2, .int x2)] (w_R cI cZ h_p0 h_p0_m h_p0_d h_p0_fresh h_p0_young h_p0_dropped h_p0_released h_p0_owed h_p0_counted h_p0_inMemory h_p0_onDisk h_p0_thn mem dsk fresh young dropped released owed counted inMemory onDisk thn moved) := by
  obtain ⟨cf, hr, hlk, hK, hN, hA⟩ := cx
  have hx := cf.1
  have hb := cf.2.1
  have hown := cf.2.2.2.1
  have ht : ∀ w ∈ wA, w.before args s = true := fun w h => cf.2.2.2.2 w (List.mem_cons_of_mem _ h)
  intro n
  induction n with
  | zero => intro x1 x2 h; cases (show (none : Option (Int32)) = some _ from h)
  | succ n ih =>
    intro x1 x2 h H locs ls hl hP hD hS
    unfold s_R_alike_20 at h
    refine lv_iload_n hx hb d_R_alike_20 rfl (lv_at hl 2 rfl) ?_
    refine lv_iload_n hx hb d_R_alike_21 rfl (lv_at hl 1 rfl) ?_
    obtain ⟨r22, h22, h⟩ := bd_some h
    refine wk_Si (As := [.int x1]) (rest := [.int x2]) (wc := []) (w1 := []) (wr := [(h_p0, .inr (2, [.ref h_p0_m, .ref h_p0_d, .ref h_p0_fresh, .ref h_p0_young, .ref h_p0_dropped, .ref h_p0_released, .ref h_p0_owed, .ref h_p0_counted, .ref h_p0_inMemory, .ref h_p0_onDisk, .ref h_p0_thn, .int moved])), (h_p0_m, .inl (cI, 1080, .inl mem)), (h_p0_d, .inl (cI, 1080, .inl dsk)), (h_p0_fresh, .inl (cZ, 36, .inl fresh)), (h_p0_young, .inl (cZ, 288, .inl young)), (h_p0_dropped, .inl (cI, 36, .inl dropped)), (h_p0_released, .inl (cZ, 18, .inl released)), (h_p0_owed, .inl (cI, 18, .inl owed)), (h_p0_counted, .inl (cI, 18, .inl counted)), (h_p0_inMemory, .inl (cZ, 18, .inl inMemory)), (h_p0_onDisk, .inl (cZ, 18, .inl onDisk)), (h_p0_thn, .inl (cZ, 18, .inl thn))]) (wz := (w_R cI cZ h_p0 h_p0_m h_p0_d h_p0_fresh h_p0_young h_p0_dropped h_p0_released h_p0_owed h_p0_counted h_p0_inMemory h_p0_onDisk h_p0_thn mem dsk fresh young dropped released owed counted inMemory onDisk thn moved)) cf hK hN hA (c_R_size l D cI cZ 0 x1 r22 h22) k_R_55 ⟨rfl, rfl, by decide, by decide⟩ hl hP hD hS [] [0, 1, 2, 3, 4, 5, 6, 7, 8, 9, 10, 11] [0, 1, 2, 3, 4, 5, 6, 7, 8, 9, 10, 11] rfl rfl rfl (by decide) rfl rfl rfl rfl rfl (Nat.le_of_ble_eq_true rfl) rfl d_R_alike_22 (fun H locs hP hD hS => ?_)
    refine lv_icmp_ge hx hb d_R_alike_25 rfl (fun hc => ?_) (fun hc => ?_)
    · rw [if_pos hc] at h
      refine lv_aload_n hx hb d_R_alike_61 rfl (lv_at hl 0 rfl) ?_
      refine va_get (D := D) (ci := 2) (v := .ref h_p0_fresh) (C := R_R) (T := F_R) (N := 12) hx hb ht in_R hown hK hP 0 rfl rfl 2 (by decide) (ht _ f_R_16) (fun _ h9 => h9) rfl d_R_alike_62 ?_
      refine lv_iload_n hx hb d_R_alike_65 rfl (lv_at hl 1 rfl) ?_
      obtain ⟨hin, h⟩ := gr_some h
      refine va_zald hx hb hK hP 3 1 rfl rfl hin d_R_alike_66 ?_
      generalize fresh x1.toNatClampNeg = v66 at h ⊢
      refine lv_if_ne hx hb d_R_alike_67 rfl (fun hc => ?_) (fun hc => ?_)
      · rw [if_neg hc] at h
        refine lv_iconst (v := (nI 0)) hx hb d_R_alike_74 (by decide) ?_
        have hz : ((nI 0) : Int32) = 0 ∨ ((nI 0) : Int32) = 1 := by decide
        cases h
        exact sc_zret cf hr hlk hz hK hP hD hS d_R_alike_75
      · rw [if_pos hc] at h
        refine lv_iconst (v := (nI 1)) hx hb d_R_alike_70 (by decide) ?_
        refine lv_goto hx hb d_R_alike_71 rfl ?_
        have hz : ((nI 1) : Int32) = 0 ∨ ((nI 1) : Int32) = 1 := by decide
        cases h
        exact sc_zret cf hr hlk hz hK hP hD hS d_R_alike_75
    · rw [if_neg hc] at h
      refine lv_aload_n hx hb d_R_alike_28 rfl (lv_at hl 0 rfl) ?_
      refine va_get (D := D) (ci := 2) (v := .ref h_p0_m) (C := R_R) (T := F_R) (N := 12) hx hb ht in_R hown hK hP 0 rfl rfl 0 (by decide) (ht _ f_R_7) (fun _ h9 => h9) rfl d_R_alike_29 ?_
      refine lv_bipush (v := (nI 30)) hx hb d_R_alike_32 (by decide) ?_
      refine lv_iload_n hx hb d_R_alike_34 rfl (lv_at hl 1 rfl) ?_
      refine lv_imul hx hb d_R_alike_35 ?_
      refine lv_iload_n hx hb d_R_alike_36 rfl (lv_at hl 2 rfl) ?_
      refine lv_iadd hx hb d_R_alike_37 ?_
      obtain ⟨hin, h⟩ := gr_some h
      refine va_iald hx hb hK hP 1 0 rfl rfl hin d_R_alike_38 ?_
      generalize mem (((nI 30) * x1) + x2).toNatClampNeg = v38 at h ⊢
      refine lv_aload_n hx hb d_R_alike_39 rfl (lv_at hl 0 rfl) ?_
      refine va_get (D := D) (ci := 2) (v := .ref h_p0_d) (C := R_R) (T := F_R) (N := 12) hx hb ht in_R hown hK hP 0 rfl rfl 1 (by decide) (ht _ f_R_13) (fun _ h9 => h9) rfl d_R_alike_40 ?_
      refine lv_bipush (v := (nI 30)) hx hb d_R_alike_43 (by decide) ?_
      refine lv_iload_n hx hb d_R_alike_45 rfl (lv_at hl 1 rfl) ?_
      refine lv_imul hx hb d_R_alike_46 ?_
      refine lv_iload_n hx hb d_R_alike_47 rfl (lv_at hl 2 rfl) ?_
      refine lv_iadd hx hb d_R_alike_48 ?_
      obtain ⟨hin, h⟩ := gr_some h
      refine va_iald hx hb hK hP 2 0 rfl rfl hin d_R_alike_49 ?_
      generalize dsk (((nI 30) * x1) + x2).toNatClampNeg = v49 at h ⊢
      refine lv_icmp_eq hx hb d_R_alike_50 rfl (fun hc => ?_) (fun hc => ?_)
      · rw [if_pos hc] at h
        refine lv_iinc (k := 2) (v := (x2 + (nI 1))) (lv' := [(2, .int (x2 + (nI 1))), (0, .ref h_p0), (1, .int x1)]) hx hb d_R_alike_55 hl rfl rfl (by decide) rfl (fun ls hl => ?_)
        refine lv_goto hx hb d_R_alike_58 rfl ?_
        exact ih x1 (x2 + (nI 1)) h H locs ls (lv_sub hl [1, 2, 0] rfl) hP hD hS
      · rw [if_neg hc] at h
        refine lv_iconst (v := (nI 0)) hx hb d_R_alike_53 (by decide) ?_
        have hz : ((nI 0) : Int32) = 0 ∨ ((nI 0) : Int32) = 1 := by decide
        cases h
        exact sc_zret cf hr hlk hz hK hP hD hS d_R_alike_54
set_option maxHeartbeats 4000000 in
set_option maxRecDepth 100000 in
theorem w_R_alike_18 {p : Program} {l : Launch} {e : Env} {s : State} {m : MethodId} {args : Array Value} {below : List Frame} {meth : Method} {c : Code} {D : va_G} {cI cZ : ClassId} {A : Nat → Prop} (h_p0 h_p0_m h_p0_d h_p0_fresh h_p0_young h_p0_dropped h_p0_released h_p0_owed h_p0_counted h_p0_inMemory h_p0_onDisk h_p0_thn : Nat) (F : Nat) (mem : (Nat → Int32)) (dsk : (Nat → Int32)) (fresh : (Nat → Int32)) (young : (Nat → Int32)) (dropped : (Nat → Int32)) (released : (Nat → Int32)) (owed : (Nat → Int32)) (counted : (Nat → Int32)) (inMemory : (Nat → Int32)) (onDisk : (Nat → Int32)) (thn : (Nat → Int32)) (moved : Int32) (r : Int32) (cx : cx_ok p s m args meth c b_R_alike 3 o_R_alike "OrderedVolumeModel" (some .boolean) D cI cZ A) : ∀ (x1 : Int32), s_R_alike_18 F mem dsk fresh x1 = some r → wk_G p l e rm_R_alike s m args below meth c (sc_Qi below args s D cI cZ A (w_R cI cZ h_p0 h_p0_m h_p0_d h_p0_fresh h_p0_young h_p0_dropped h_p0_released h_p0_owed h_p0_counted h_p0_inMemory h_p0_onDisk h_p0_thn mem dsk fresh young dropped released owed counted inMemory onDisk thn moved) r) D A 3 18 [] [(0, .ref h_p0), (1, .int x1)] (w_R cI cZ h_p0 h_p0_m h_p0_d h_p0_fresh h_p0_young h_p0_dropped h_p0_released h_p0_owed h_p0_counted h_p0_inMemory h_p0_onDisk h_p0_thn mem dsk fresh young dropped released owed counted inMemory onDisk thn moved) := by
  obtain ⟨cf, hr, hlk, hK, hN, hA⟩ := cx
  have hx := cf.1
  have hb := cf.2.1
  have hown := cf.2.2.2.1
  have ht : ∀ w ∈ wA, w.before args s = true := fun w h => cf.2.2.2.2 w (List.mem_cons_of_mem _ h)
  intro x1 h H locs ls hl hP hD hS
  unfold s_R_alike_18 at h
  refine lv_iconst (v := (nI 0)) hx hb d_R_alike_18 (by decide) ?_
  refine lv_istore_n (lv' := [(2, .int (nI 0)), (0, .ref h_p0), (1, .int x1)]) hx hb d_R_alike_19 rfl hl (by decide) rfl (fun ls hl => ?_)
  exact w_R_alike_20 h_p0 h_p0_m h_p0_d h_p0_fresh h_p0_young h_p0_dropped h_p0_released h_p0_owed h_p0_counted h_p0_inMemory h_p0_onDisk h_p0_thn F mem dsk fresh young dropped released owed counted inMemory onDisk thn moved r ⟨cf, hr, hlk, hK, hN, hA⟩ F x1 (nI 0) h H locs ls (lv_sub hl [1, 2, 0] rfl) hP hD hS
set_option maxHeartbeats 4000000 in
set_option maxRecDepth 100000 in
theorem c_R_alike (l : Launch) (D : va_G) (cI cZ : ClassId) (h_p0 h_p0_m h_p0_d h_p0_fresh h_p0_young h_p0_dropped h_p0_released h_p0_owed h_p0_counted h_p0_inMemory h_p0_onDisk h_p0_thn : Nat) (F : Nat) (mem : (Nat → Int32)) (dsk : (Nat → Int32)) (fresh : (Nat → Int32)) (young : (Nat → Int32)) (dropped : (Nat → Int32)) (released : (Nat → Int32)) (owed : (Nat → Int32)) (counted : (Nat → Int32)) (inMemory : (Nat → Int32)) (onDisk : (Nat → Int32)) (thn : (Nat → Int32)) (moved : Int32) (x1 : Int32) (r : Int32) (h : s_R_alike F mem dsk fresh x1 = some r) : sc_i l y_R_alike (o_R_alike :: wA) rm_R_alike D cI cZ [.ref h_p0, .int x1] (w_R cI cZ h_p0 h_p0_m h_p0_d h_p0_fresh h_p0_young h_p0_dropped h_p0_released h_p0_owed h_p0_counted h_p0_inMemory h_p0_onDisk h_p0_thn mem dsk fresh young dropped released owed counted inMemory onDisk thn moved) (w_R cI cZ h_p0 h_p0_m h_p0_d h_p0_fresh h_p0_young h_p0_dropped h_p0_released h_p0_owed h_p0_counted h_p0_inMemory h_p0_onDisk h_p0_thn mem dsk fresh young dropped released owed counted inMemory onDisk thn moved) r := by
  refine sc_i_of (cc := b_R_alike) (maxL := 3) (ret := (some .boolean)) (by decide) rfl (Nat.le_of_ble_eq_true rfl) ?_
  intro p e s m below meth c A cf hr hlk hK hN hA H locs ls hl hP hD hS
  have hx := cf.1
  have hb := cf.2.1
  have hown := cf.2.2.2.1
  have ht : ∀ w ∈ wA, w.before _ s = true := fun w h => cf.2.2.2.2 w (List.mem_cons_of_mem _ h)
  unfold s_R_alike at h
  have hl : lv_has ls 3 [(0, .ref h_p0), (1, .int x1)] := hl
  refine lv_iload_n hx hb d_R_alike_0 rfl (lv_at hl 1 rfl) ?_
  refine lv_bipush (v := (nI 12)) hx hb d_R_alike_1 (by decide) ?_
  refine lv_irem hx hb d_R_alike_3 (by decide) ?_
  refine lv_iconst (v := (nI 1)) hx hb d_R_alike_4 (by decide) ?_
  refine lv_icmp_le hx hb d_R_alike_5 rfl (fun hc => ?_) (fun hc => ?_)
  · rw [if_pos hc] at h
    exact w_R_alike_18 h_p0 h_p0_m h_p0_d h_p0_fresh h_p0_young h_p0_dropped h_p0_released h_p0_owed h_p0_counted h_p0_inMemory h_p0_onDisk h_p0_thn F mem dsk fresh young dropped released owed counted inMemory onDisk thn moved r ⟨cf, hr, hlk, hK, hN, hA⟩ x1 h H locs ls (lv_sub hl [0, 1] rfl) hP hD hS
  · rw [if_neg hc] at h
    refine lv_aload_n hx hb d_R_alike_8 rfl (lv_at hl 0 rfl) ?_
    refine lv_iload_n hx hb d_R_alike_9 rfl (lv_at hl 1 rfl) ?_
    obtain ⟨r10, h10, h⟩ := bd_some h
    refine wk_Vi (As := [.int x1]) (rest := []) (wc := (w_R cI cZ h_p0 h_p0_m h_p0_d h_p0_fresh h_p0_young h_p0_dropped h_p0_released h_p0_owed h_p0_counted h_p0_inMemory h_p0_onDisk h_p0_thn mem dsk fresh young dropped released owed counted inMemory onDisk thn moved)) (w1 := (w_R cI cZ h_p0 h_p0_m h_p0_d h_p0_fresh h_p0_young h_p0_dropped h_p0_released h_p0_owed h_p0_counted h_p0_inMemory h_p0_onDisk h_p0_thn mem dsk fresh young dropped released owed counted inMemory onDisk thn moved)) (wr := []) (wz := (w_R cI cZ h_p0 h_p0_m h_p0_d h_p0_fresh h_p0_young h_p0_dropped h_p0_released h_p0_owed h_p0_counted h_p0_inMemory h_p0_onDisk h_p0_thn mem dsk fresh young dropped released owed counted inMemory onDisk thn moved)) cf hK hN hA (c_R_owner l D cI cZ h_p0 h_p0_m h_p0_d h_p0_fresh h_p0_young h_p0_dropped h_p0_released h_p0_owed h_p0_counted h_p0_inMemory h_p0_onDisk h_p0_thn F mem dsk fresh young dropped released owed counted inMemory onDisk thn moved x1 r10 h10) k_R_93 ⟨rfl, rfl, by decide, by decide⟩ 2 rfl rfl rfl hl hP hD hS [0, 1, 2, 3, 4, 5, 6, 7, 8, 9, 10, 11] [] [0, 1, 2, 3, 4, 5, 6, 7, 8, 9, 10, 11] rfl rfl rfl (by decide) rfl rfl rfl rfl rfl (Nat.le_of_ble_eq_true rfl) rfl d_R_alike_10 (fun H locs hP hD hS => ?_)
    refine lv_if_ne hx hb d_R_alike_13 rfl (fun hc => ?_) (fun hc => ?_)
    · rw [if_neg hc] at h
      exact w_R_alike_18 h_p0 h_p0_m h_p0_d h_p0_fresh h_p0_young h_p0_dropped h_p0_released h_p0_owed h_p0_counted h_p0_inMemory h_p0_onDisk h_p0_thn F mem dsk fresh young dropped released owed counted inMemory onDisk thn moved r ⟨cf, hr, hlk, hK, hN, hA⟩ x1 h H locs ls (lv_sub hl [0, 1] rfl) hP hD hS
    · rw [if_pos hc] at h
      refine lv_iconst (v := (nI 1)) hx hb d_R_alike_16 (by decide) ?_
      have hz : ((nI 1) : Int32) = 0 ∨ ((nI 1) : Int32) = 1 := by decide
      cases h
      exact sc_zret cf hr hlk hz hK hP hD hS d_R_alike_17
set_option maxHeartbeats 4000000 in
set_option maxRecDepth 100000 in
theorem w_R_allAlike_2 {p : Program} {l : Launch} {e : Env} {s : State} {m : MethodId} {args : Array Value} {below : List Frame} {meth : Method} {c : Code} {D : va_G} {cI cZ : ClassId} {A : Nat → Prop} (h_p0 h_p0_m h_p0_d h_p0_fresh h_p0_young h_p0_dropped h_p0_released h_p0_owed h_p0_counted h_p0_inMemory h_p0_onDisk h_p0_thn : Nat) (F : Nat) (mem : (Nat → Int32)) (dsk : (Nat → Int32)) (fresh : (Nat → Int32)) (young : (Nat → Int32)) (dropped : (Nat → Int32)) (released : (Nat → Int32)) (owed : (Nat → Int32)) (counted : (Nat → Int32)) (inMemory : (Nat → Int32)) (onDisk : (Nat → Int32)) (thn : (Nat → Int32)) (moved : Int32) (r : Int32) (cx : cx_ok p s m args meth c b_R_allAlike 2 o_R_allAlike "OrderedVolumeModel" (some .boolean) D cI cZ A) : ∀ (n : Nat) (x1 : Int32), s_R_allAlike_2 F mem dsk fresh n x1 = some r → wk_G p l e rm_R_allAlike s m args below meth c (sc_Qi below args s D cI cZ A (w_R cI cZ h_p0 h_p0_m h_p0_d h_p0_fresh h_p0_young h_p0_dropped h_p0_released h_p0_owed h_p0_counted h_p0_inMemory h_p0_onDisk h_p0_thn mem dsk fresh young dropped released owed counted inMemory onDisk thn moved) r) D A 2 2 [] [(0, .ref h_p0), (1, .int x1)] (w_R cI cZ h_p0 h_p0_m h_p0_d h_p0_fresh h_p0_young h_p0_dropped h_p0_released h_p0_owed h_p0_counted h_p0_inMemory h_p0_onDisk h_p0_thn mem dsk fresh young dropped released owed counted inMemory onDisk thn moved) := by
  obtain ⟨cf, hr, hlk, hK, hN, hA⟩ := cx
  have hx := cf.1
  have hb := cf.2.1
  have hown := cf.2.2.2.1
  have ht : ∀ w ∈ wA, w.before args s = true := fun w h => cf.2.2.2.2 w (List.mem_cons_of_mem _ h)
  intro n
  induction n with
  | zero => intro x1 h; cases (show (none : Option (Int32)) = some _ from h)
  | succ n ih =>
    intro x1 h H locs ls hl hP hD hS
    unfold s_R_allAlike_2 at h
    refine lv_iload_n hx hb d_R_allAlike_2 rfl (lv_at hl 1 rfl) ?_
    refine lv_bipush (v := (nI 36)) hx hb d_R_allAlike_3 (by decide) ?_
    refine lv_icmp_ge hx hb d_R_allAlike_5 rfl (fun hc => ?_) (fun hc => ?_)
    · rw [if_pos hc] at h
      refine lv_iconst (v := (nI 1)) hx hb d_R_allAlike_24 (by decide) ?_
      have hz : ((nI 1) : Int32) = 0 ∨ ((nI 1) : Int32) = 1 := by decide
      cases h
      exact sc_zret cf hr hlk hz hK hP hD hS d_R_allAlike_25
    · rw [if_neg hc] at h
      refine lv_aload_n hx hb d_R_allAlike_8 rfl (lv_at hl 0 rfl) ?_
      refine lv_iload_n hx hb d_R_allAlike_9 rfl (lv_at hl 1 rfl) ?_
      obtain ⟨r10, h10, h⟩ := bd_some h
      refine wk_Vi (As := [.int x1]) (rest := []) (wc := (w_R cI cZ h_p0 h_p0_m h_p0_d h_p0_fresh h_p0_young h_p0_dropped h_p0_released h_p0_owed h_p0_counted h_p0_inMemory h_p0_onDisk h_p0_thn mem dsk fresh young dropped released owed counted inMemory onDisk thn moved)) (w1 := (w_R cI cZ h_p0 h_p0_m h_p0_d h_p0_fresh h_p0_young h_p0_dropped h_p0_released h_p0_owed h_p0_counted h_p0_inMemory h_p0_onDisk h_p0_thn mem dsk fresh young dropped released owed counted inMemory onDisk thn moved)) (wr := []) (wz := (w_R cI cZ h_p0 h_p0_m h_p0_d h_p0_fresh h_p0_young h_p0_dropped h_p0_released h_p0_owed h_p0_counted h_p0_inMemory h_p0_onDisk h_p0_thn mem dsk fresh young dropped released owed counted inMemory onDisk thn moved)) cf hK hN hA (c_R_alike l D cI cZ h_p0 h_p0_m h_p0_d h_p0_fresh h_p0_young h_p0_dropped h_p0_released h_p0_owed h_p0_counted h_p0_inMemory h_p0_onDisk h_p0_thn F mem dsk fresh young dropped released owed counted inMemory onDisk thn moved x1 r10 h10) k_R_160 ⟨rfl, rfl, by decide, by decide⟩ 2 rfl rfl rfl hl hP hD hS [0, 1, 2, 3, 4, 5, 6, 7, 8, 9, 10, 11] [] [0, 1, 2, 3, 4, 5, 6, 7, 8, 9, 10, 11] rfl rfl rfl (by decide) rfl rfl rfl rfl rfl (Nat.le_of_ble_eq_true rfl) rfl d_R_allAlike_10 (fun H locs hP hD hS => ?_)
      refine lv_if_ne hx hb d_R_allAlike_13 rfl (fun hc => ?_) (fun hc => ?_)
      · rw [if_neg hc] at h
        refine lv_iinc (k := 1) (v := (x1 + (nI 1))) (lv' := [(1, .int (x1 + (nI 1))), (0, .ref h_p0)]) hx hb d_R_allAlike_18 hl rfl rfl (by decide) rfl (fun ls hl => ?_)
        refine lv_goto hx hb d_R_allAlike_21 rfl ?_
        exact ih (x1 + (nI 1)) h H locs ls (lv_sub hl [1, 0] rfl) hP hD hS
      · rw [if_pos hc] at h
        refine lv_iconst (v := (nI 0)) hx hb d_R_allAlike_16 (by decide) ?_
        have hz : ((nI 0) : Int32) = 0 ∨ ((nI 0) : Int32) = 1 := by decide
        cases h
        exact sc_zret cf hr hlk hz hK hP hD hS d_R_allAlike_17
set_option maxHeartbeats 4000000 in
set_option maxRecDepth 100000 in
theorem c_R_allAlike (l : Launch) (D : va_G) (cI cZ : ClassId) (h_p0 h_p0_m h_p0_d h_p0_fresh h_p0_young h_p0_dropped h_p0_released h_p0_owed h_p0_counted h_p0_inMemory h_p0_onDisk h_p0_thn : Nat) (F : Nat) (mem : (Nat → Int32)) (dsk : (Nat → Int32)) (fresh : (Nat → Int32)) (young : (Nat → Int32)) (dropped : (Nat → Int32)) (released : (Nat → Int32)) (owed : (Nat → Int32)) (counted : (Nat → Int32)) (inMemory : (Nat → Int32)) (onDisk : (Nat → Int32)) (thn : (Nat → Int32)) (moved : Int32) (r : Int32) (h : s_R_allAlike F mem dsk fresh = some r) : sc_i l y_R_allAlike (o_R_allAlike :: wA) rm_R_allAlike D cI cZ [.ref h_p0] (w_R cI cZ h_p0 h_p0_m h_p0_d h_p0_fresh h_p0_young h_p0_dropped h_p0_released h_p0_owed h_p0_counted h_p0_inMemory h_p0_onDisk h_p0_thn mem dsk fresh young dropped released owed counted inMemory onDisk thn moved) (w_R cI cZ h_p0 h_p0_m h_p0_d h_p0_fresh h_p0_young h_p0_dropped h_p0_released h_p0_owed h_p0_counted h_p0_inMemory h_p0_onDisk h_p0_thn mem dsk fresh young dropped released owed counted inMemory onDisk thn moved) r := by
  refine sc_i_of (cc := b_R_allAlike) (maxL := 2) (ret := (some .boolean)) (by decide) rfl (Nat.le_of_ble_eq_true rfl) ?_
  intro p e s m below meth c A cf hr hlk hK hN hA H locs ls hl hP hD hS
  have hx := cf.1
  have hb := cf.2.1
  have hown := cf.2.2.2.1
  have ht : ∀ w ∈ wA, w.before _ s = true := fun w h => cf.2.2.2.2 w (List.mem_cons_of_mem _ h)
  unfold s_R_allAlike at h
  have hl : lv_has ls 2 [(0, .ref h_p0)] := hl
  refine lv_iconst (v := (nI 0)) hx hb d_R_allAlike_0 (by decide) ?_
  refine lv_istore_n (lv' := [(1, .int (nI 0)), (0, .ref h_p0)]) hx hb d_R_allAlike_1 rfl hl (by decide) rfl (fun ls hl => ?_)
  exact w_R_allAlike_2 h_p0 h_p0_m h_p0_d h_p0_fresh h_p0_young h_p0_dropped h_p0_released h_p0_owed h_p0_counted h_p0_inMemory h_p0_onDisk h_p0_thn F mem dsk fresh young dropped released owed counted inMemory onDisk thn moved r ⟨cf, hr, hlk, hK, hN, hA⟩ F (nI 0) h H locs ls (lv_sub hl [1, 0] rfl) hP hD hS
set_option maxHeartbeats 4000000 in
set_option maxRecDepth 100000 in
theorem c_R_markOfBlock (l : Launch) (D : va_G) (cI cZ : ClassId) (z : Nat) (x0 : Int32) (r : Int32) (h : s_R_markOfBlock x0 = some r) : sc_i l y_R_markOfBlock (o_R_markOfBlock :: wA) rm_R_markOfBlock D cI cZ [.int x0] [] [] r := by
  refine sc_i_of (cc := b_R_markOfBlock) (maxL := 1) (ret := (some .int)) (by decide) rfl (Nat.le_of_ble_eq_true rfl) ?_
  intro p e s m below meth c A cf hr hlk hK hN hA H locs ls hl hP hD hS
  have hx := cf.1
  have hb := cf.2.1
  have hown := cf.2.2.2.1
  have ht : ∀ w ∈ wA, w.before _ s = true := fun w h => cf.2.2.2.2 w (List.mem_cons_of_mem _ h)
  unfold s_R_markOfBlock at h
  have hl : lv_has ls 1 [(0, .int x0)] := hl
  refine lv_iload_n hx hb d_R_markOfBlock_0 rfl (lv_at hl 0 rfl) ?_
  refine lv_bipush (v := (nI 12)) hx hb d_R_markOfBlock_1 (by decide) ?_
  refine lv_idiv hx hb d_R_markOfBlock_3 (by decide) ?_
  refine lv_bipush (v := (nI 12)) hx hb d_R_markOfBlock_4 (by decide) ?_
  refine lv_imul hx hb d_R_markOfBlock_6 ?_
  refine lv_bipush (v := (nI 30)) hx hb d_R_markOfBlock_7 (by decide) ?_
  refine lv_imul hx hb d_R_markOfBlock_9 ?_
  refine lv_iconst (v := (nI 4)) hx hb d_R_markOfBlock_10 (by decide) ?_
  refine lv_iadd hx hb d_R_markOfBlock_11 ?_
  refine lv_iload_n hx hb d_R_markOfBlock_12 rfl (lv_at hl 0 rfl) ?_
  refine lv_bipush (v := (nI 12)) hx hb d_R_markOfBlock_13 (by decide) ?_
  refine lv_irem hx hb d_R_markOfBlock_15 (by decide) ?_
  refine lv_iadd hx hb d_R_markOfBlock_16 ?_
  cases h
  exact sc_iret cf hr hlk hK hP hD hS d_R_markOfBlock_17
set_option maxHeartbeats 4000000 in
set_option maxRecDepth 100000 in
theorem w_R_blockFrom_2 {p : Program} {l : Launch} {e : Env} {s : State} {m : MethodId} {args : Array Value} {below : List Frame} {meth : Method} {c : Code} {D : va_G} {cI cZ : ClassId} {A : Nat → Prop} (h_p0 h_p0_m h_p0_d h_p0_fresh h_p0_young h_p0_dropped h_p0_released h_p0_owed h_p0_counted h_p0_inMemory h_p0_onDisk h_p0_thn : Nat) (F : Nat) (mem : (Nat → Int32)) (dsk : (Nat → Int32)) (fresh : (Nat → Int32)) (young : (Nat → Int32)) (dropped : (Nat → Int32)) (released : (Nat → Int32)) (owed : (Nat → Int32)) (counted : (Nat → Int32)) (inMemory : (Nat → Int32)) (onDisk : (Nat → Int32)) (thn : (Nat → Int32)) (moved : Int32) (r : Int32) (cx : cx_ok p s m args meth c b_R_blockFrom 4 o_R_blockFrom "OrderedVolumeModel" (some .int) D cI cZ A) : ∀ (n : Nat) (x1 : Int32) (x2 : Int32), s_R_blockFrom_2 F mem n x1 x2 = some r → wk_G p l e rm_R_blockFrom s m args below meth c (sc_Qi below args s D cI cZ A (w_R cI cZ h_p0 h_p0_m h_p0_d h_p0_fresh h_p0_young h_p0_dropped h_p0_released h_p0_owed h_p0_counted h_p0_inMemory h_p0_onDisk h_p0_thn mem dsk fresh young dropped released owed counted inMemory onDisk thn moved) r) D A 4 2 [] [(0, .ref h_p0), (1, .int x1), (2, .int x2)] (w_R cI cZ h_p0 h_p0_m h_p0_d h_p0_fresh h_p0_young h_p0_dropped h_p0_released h_p0_owed h_p0_counted h_p0_inMemory h_p0_onDisk h_p0_thn mem dsk fresh young dropped released owed counted inMemory onDisk thn moved) := by
  obtain ⟨cf, hr, hlk, hK, hN, hA⟩ := cx
  have hx := cf.1
  have hb := cf.2.1
  have hown := cf.2.2.2.1
  have ht : ∀ w ∈ wA, w.before args s = true := fun w h => cf.2.2.2.2 w (List.mem_cons_of_mem _ h)
  intro n
  induction n with
  | zero => intro x1 x2 h; cases (show (none : Option (Int32)) = some _ from h)
  | succ n ih =>
    intro x1 x2 h H locs ls hl hP hD hS
    unfold s_R_blockFrom_2 at h
    refine lv_iload_n hx hb d_R_blockFrom_2 rfl (lv_at hl 2 rfl) ?_
    refine lv_bipush (v := (nI 36)) hx hb d_R_blockFrom_3 (by decide) ?_
    refine lv_icmp_ge hx hb d_R_blockFrom_5 rfl (fun hc => ?_) (fun hc => ?_)
    · rw [if_pos hc] at h
      refine lv_iconst (v := (-1)) hx hb d_R_blockFrom_46 (by decide) ?_
      cases h
      exact sc_iret cf hr hlk hK hP hD hS d_R_blockFrom_47
    · rw [if_neg hc] at h
      refine lv_iload_n hx hb d_R_blockFrom_8 rfl (lv_at hl 1 rfl) ?_
      refine lv_bipush (v := (nI 12)) hx hb d_R_blockFrom_9 (by decide) ?_
      refine lv_imul hx hb d_R_blockFrom_11 ?_
      refine lv_iload_n hx hb d_R_blockFrom_12 rfl (lv_at hl 2 rfl) ?_
      refine lv_iadd hx hb d_R_blockFrom_13 ?_
      refine lv_bipush (v := (nI 36)) hx hb d_R_blockFrom_14 (by decide) ?_
      refine lv_irem hx hb d_R_blockFrom_16 (by decide) ?_
      refine lv_istore_n (lv' := [(3, .int (((x1 * (nI 12)) + x2) - ((x1 * (nI 12)) + x2) / (nI 36) * (nI 36))), (0, .ref h_p0), (1, .int x1), (2, .int x2)]) hx hb d_R_blockFrom_17 rfl hl (by decide) rfl (fun ls hl => ?_)
      refine lv_iload_n hx hb d_R_blockFrom_18 rfl (lv_at hl 0 rfl) ?_
      refine lv_bipush (v := (nI 12)) hx hb d_R_blockFrom_19 (by decide) ?_
      refine lv_irem hx hb d_R_blockFrom_21 (by decide) ?_
      refine lv_iconst (v := (nI 1)) hx hb d_R_blockFrom_22 (by decide) ?_
      refine lv_icmp_le hx hb d_R_blockFrom_23 rfl (fun hc => ?_) (fun hc => ?_)
      · rw [if_pos hc] at h
        refine lv_iinc (k := 3) (v := (x2 + (nI 1))) (lv' := [(2, .int (x2 + (nI 1))), (3, .int (((x1 * (nI 12)) + x2) - ((x1 * (nI 12)) + x2) / (nI 36) * (nI 36))), (0, .ref h_p0), (1, .int x1)]) hx hb d_R_blockFrom_40 hl rfl rfl (by decide) rfl (fun ls hl => ?_)
        refine lv_goto hx hb d_R_blockFrom_43 rfl ?_
        exact ih x1 (x2 + (nI 1)) h H locs ls (lv_sub hl [2, 3, 0] rfl) hP hD hS
      · rw [if_neg hc] at h
        refine lv_aload_n hx hb d_R_blockFrom_26 rfl (lv_at hl 1 rfl) ?_
        refine va_get (D := D) (ci := 2) (v := .ref h_p0_m) (C := R_R) (T := F_R) (N := 12) hx hb ht in_R hown hK hP 0 rfl rfl 0 (by decide) (ht _ f_R_7) (fun _ h9 => h9) rfl d_R_blockFrom_27 ?_
        refine lv_iload_n hx hb d_R_blockFrom_30 rfl (lv_at hl 0 rfl) ?_
        obtain ⟨r31, h31, h⟩ := bd_some h
        refine wk_Si (As := [.int (((x1 * (nI 12)) + x2) - ((x1 * (nI 12)) + x2) / (nI 36) * (nI 36))]) (rest := [.ref h_p0_m]) (wc := []) (w1 := []) (wr := [(h_p0, .inr (2, [.ref h_p0_m, .ref h_p0_d, .ref h_p0_fresh, .ref h_p0_young, .ref h_p0_dropped, .ref h_p0_released, .ref h_p0_owed, .ref h_p0_counted, .ref h_p0_inMemory, .ref h_p0_onDisk, .ref h_p0_thn, .int moved])), (h_p0_m, .inl (cI, 1080, .inl mem)), (h_p0_d, .inl (cI, 1080, .inl dsk)), (h_p0_fresh, .inl (cZ, 36, .inl fresh)), (h_p0_young, .inl (cZ, 288, .inl young)), (h_p0_dropped, .inl (cI, 36, .inl dropped)), (h_p0_released, .inl (cZ, 18, .inl released)), (h_p0_owed, .inl (cI, 18, .inl owed)), (h_p0_counted, .inl (cI, 18, .inl counted)), (h_p0_inMemory, .inl (cZ, 18, .inl inMemory)), (h_p0_onDisk, .inl (cZ, 18, .inl onDisk)), (h_p0_thn, .inl (cZ, 18, .inl thn))]) (wz := (w_R cI cZ h_p0 h_p0_m h_p0_d h_p0_fresh h_p0_young h_p0_dropped h_p0_released h_p0_owed h_p0_counted h_p0_inMemory h_p0_onDisk h_p0_thn mem dsk fresh young dropped released owed counted inMemory onDisk thn moved)) cf hK hN hA (c_R_markOfBlock l D cI cZ 0 (((x1 * (nI 12)) + x2) - ((x1 * (nI 12)) + x2) / (nI 36) * (nI 36)) r31 h31) k_R_52 ⟨rfl, rfl, by decide, by decide⟩ hl hP hD hS [] [0, 1, 2, 3, 4, 5, 6, 7, 8, 9, 10, 11] [0, 1, 2, 3, 4, 5, 6, 7, 8, 9, 10, 11] rfl rfl rfl (by decide) rfl rfl rfl rfl rfl (Nat.le_of_ble_eq_true rfl) rfl d_R_blockFrom_31 (fun H locs hP hD hS => ?_)
        obtain ⟨hin, h⟩ := gr_some h
        refine va_iald hx hb hK hP 1 0 rfl rfl hin d_R_blockFrom_34 ?_
        generalize mem r31.toNatClampNeg = v34 at h ⊢
        refine lv_if_ne hx hb d_R_blockFrom_35 rfl (fun hc => ?_) (fun hc => ?_)
        · rw [if_neg hc] at h
          refine lv_iinc (k := 3) (v := (x2 + (nI 1))) (lv' := [(2, .int (x2 + (nI 1))), (3, .int (((x1 * (nI 12)) + x2) - ((x1 * (nI 12)) + x2) / (nI 36) * (nI 36))), (0, .ref h_p0), (1, .int x1)]) hx hb d_R_blockFrom_40 hl rfl rfl (by decide) rfl (fun ls hl => ?_)
          refine lv_goto hx hb d_R_blockFrom_43 rfl ?_
          exact ih x1 (x2 + (nI 1)) h H locs ls (lv_sub hl [2, 3, 0] rfl) hP hD hS
        · rw [if_pos hc] at h
          refine lv_iload_n hx hb d_R_blockFrom_38 rfl (lv_at hl 0 rfl) ?_
          cases h
          exact sc_iret cf hr hlk hK hP hD hS d_R_blockFrom_39
set_option maxHeartbeats 4000000 in
set_option maxRecDepth 100000 in
theorem c_R_blockFrom (l : Launch) (D : va_G) (cI cZ : ClassId) (h_p0 h_p0_m h_p0_d h_p0_fresh h_p0_young h_p0_dropped h_p0_released h_p0_owed h_p0_counted h_p0_inMemory h_p0_onDisk h_p0_thn : Nat) (F : Nat) (mem : (Nat → Int32)) (dsk : (Nat → Int32)) (fresh : (Nat → Int32)) (young : (Nat → Int32)) (dropped : (Nat → Int32)) (released : (Nat → Int32)) (owed : (Nat → Int32)) (counted : (Nat → Int32)) (inMemory : (Nat → Int32)) (onDisk : (Nat → Int32)) (thn : (Nat → Int32)) (moved : Int32) (x1 : Int32) (r : Int32) (h : s_R_blockFrom F mem x1 = some r) : sc_i l y_R_blockFrom (o_R_blockFrom :: wA) rm_R_blockFrom D cI cZ [.ref h_p0, .int x1] (w_R cI cZ h_p0 h_p0_m h_p0_d h_p0_fresh h_p0_young h_p0_dropped h_p0_released h_p0_owed h_p0_counted h_p0_inMemory h_p0_onDisk h_p0_thn mem dsk fresh young dropped released owed counted inMemory onDisk thn moved) (w_R cI cZ h_p0 h_p0_m h_p0_d h_p0_fresh h_p0_young h_p0_dropped h_p0_released h_p0_owed h_p0_counted h_p0_inMemory h_p0_onDisk h_p0_thn mem dsk fresh young dropped released owed counted inMemory onDisk thn moved) r := by
  refine sc_i_of (cc := b_R_blockFrom) (maxL := 4) (ret := (some .int)) (by decide) rfl (Nat.le_of_ble_eq_true rfl) ?_
  intro p e s m below meth c A cf hr hlk hK hN hA H locs ls hl hP hD hS
  have hx := cf.1
  have hb := cf.2.1
  have hown := cf.2.2.2.1
  have ht : ∀ w ∈ wA, w.before _ s = true := fun w h => cf.2.2.2.2 w (List.mem_cons_of_mem _ h)
  unfold s_R_blockFrom at h
  have hl : lv_has ls 4 [(0, .ref h_p0), (1, .int x1)] := hl
  refine lv_iconst (v := (nI 0)) hx hb d_R_blockFrom_0 (by decide) ?_
  refine lv_istore_n (lv' := [(2, .int (nI 0)), (0, .ref h_p0), (1, .int x1)]) hx hb d_R_blockFrom_1 rfl hl (by decide) rfl (fun ls hl => ?_)
  exact w_R_blockFrom_2 h_p0 h_p0_m h_p0_d h_p0_fresh h_p0_young h_p0_dropped h_p0_released h_p0_owed h_p0_counted h_p0_inMemory h_p0_onDisk h_p0_thn F mem dsk fresh young dropped released owed counted inMemory onDisk thn moved r ⟨cf, hr, hlk, hK, hN, hA⟩ F x1 (nI 0) h H locs ls (lv_sub hl [1, 2, 0] rfl) hP hD hS
set_option maxHeartbeats 4000000 in
set_option maxRecDepth 100000 in
theorem w_R_blockFor_52 {p : Program} {l : Launch} {e : Env} {s : State} {m : MethodId} {args : Array Value} {below : List Frame} {meth : Method} {c : Code} {D : va_G} {cI cZ : ClassId} {A : Nat → Prop} (h_p0 h_p0_m h_p0_d h_p0_fresh h_p0_young h_p0_dropped h_p0_released h_p0_owed h_p0_counted h_p0_inMemory h_p0_onDisk h_p0_thn : Nat) (F : Nat) (mem : (Nat → Int32)) (dsk : (Nat → Int32)) (fresh : (Nat → Int32)) (young : (Nat → Int32)) (dropped : (Nat → Int32)) (released : (Nat → Int32)) (owed : (Nat → Int32)) (counted : (Nat → Int32)) (inMemory : (Nat → Int32)) (onDisk : (Nat → Int32)) (thn : (Nat → Int32)) (moved : Int32) (r : Int32) (cx : cx_ok p s m args meth c b_R_blockFor 4 o_R_blockFor "OrderedVolumeModel" (some .int) D cI cZ A) : ∀ (x1 : Int32), s_R_blockFor_52 F mem x1 = some r → wk_G p l e rm_R_blockFor s m args below meth c (sc_Qi below args s D cI cZ A (w_R cI cZ h_p0 h_p0_m h_p0_d h_p0_fresh h_p0_young h_p0_dropped h_p0_released h_p0_owed h_p0_counted h_p0_inMemory h_p0_onDisk h_p0_thn mem dsk fresh young dropped released owed counted inMemory onDisk thn moved) r) D A 4 52 [] [(0, .ref h_p0), (1, .int x1)] (w_R cI cZ h_p0 h_p0_m h_p0_d h_p0_fresh h_p0_young h_p0_dropped h_p0_released h_p0_owed h_p0_counted h_p0_inMemory h_p0_onDisk h_p0_thn mem dsk fresh young dropped released owed counted inMemory onDisk thn moved) := by
  obtain ⟨cf, hr, hlk, hK, hN, hA⟩ := cx
  have hx := cf.1
  have hb := cf.2.1
  have hown := cf.2.2.2.1
  have ht : ∀ w ∈ wA, w.before args s = true := fun w h => cf.2.2.2.2 w (List.mem_cons_of_mem _ h)
  intro x1 h H locs ls hl hP hD hS
  unfold s_R_blockFor_52 at h
  refine lv_aload_n hx hb d_R_blockFor_52 rfl (lv_at hl 0 rfl) ?_
  refine lv_iload_n hx hb d_R_blockFor_53 rfl (lv_at hl 1 rfl) ?_
  refine lv_bipush (v := (nI 6)) hx hb d_R_blockFor_54 (by decide) ?_
  refine lv_idiv hx hb d_R_blockFor_56 (by decide) ?_
  obtain ⟨r57, h57, h⟩ := bd_some h
  refine wk_Vi (As := [.int (x1 / (nI 6))]) (rest := []) (wc := (w_R cI cZ h_p0 h_p0_m h_p0_d h_p0_fresh h_p0_young h_p0_dropped h_p0_released h_p0_owed h_p0_counted h_p0_inMemory h_p0_onDisk h_p0_thn mem dsk fresh young dropped released owed counted inMemory onDisk thn moved)) (w1 := (w_R cI cZ h_p0 h_p0_m h_p0_d h_p0_fresh h_p0_young h_p0_dropped h_p0_released h_p0_owed h_p0_counted h_p0_inMemory h_p0_onDisk h_p0_thn mem dsk fresh young dropped released owed counted inMemory onDisk thn moved)) (wr := []) (wz := (w_R cI cZ h_p0 h_p0_m h_p0_d h_p0_fresh h_p0_young h_p0_dropped h_p0_released h_p0_owed h_p0_counted h_p0_inMemory h_p0_onDisk h_p0_thn mem dsk fresh young dropped released owed counted inMemory onDisk thn moved)) cf hK hN hA (c_R_blockFrom l D cI cZ h_p0 h_p0_m h_p0_d h_p0_fresh h_p0_young h_p0_dropped h_p0_released h_p0_owed h_p0_counted h_p0_inMemory h_p0_onDisk h_p0_thn F mem dsk fresh young dropped released owed counted inMemory onDisk thn moved (x1 / (nI 6)) r57 h57) k_R_99 ⟨rfl, rfl, by decide, by decide⟩ 2 rfl rfl rfl hl hP hD hS [0, 1, 2, 3, 4, 5, 6, 7, 8, 9, 10, 11] [] [0, 1, 2, 3, 4, 5, 6, 7, 8, 9, 10, 11] rfl rfl rfl (by decide) rfl rfl rfl rfl rfl (Nat.le_of_ble_eq_true rfl) rfl d_R_blockFor_57 (fun H locs hP hD hS => ?_)
  cases h
  exact sc_iret cf hr hlk hK hP hD hS d_R_blockFor_60
set_option maxHeartbeats 4000000 in
set_option maxRecDepth 100000 in
theorem w_R_blockFor_20 {p : Program} {l : Launch} {e : Env} {s : State} {m : MethodId} {args : Array Value} {below : List Frame} {meth : Method} {c : Code} {D : va_G} {cI cZ : ClassId} {A : Nat → Prop} (h_p0 h_p0_m h_p0_d h_p0_fresh h_p0_young h_p0_dropped h_p0_released h_p0_owed h_p0_counted h_p0_inMemory h_p0_onDisk h_p0_thn : Nat) (F : Nat) (mem : (Nat → Int32)) (dsk : (Nat → Int32)) (fresh : (Nat → Int32)) (young : (Nat → Int32)) (dropped : (Nat → Int32)) (released : (Nat → Int32)) (owed : (Nat → Int32)) (counted : (Nat → Int32)) (inMemory : (Nat → Int32)) (onDisk : (Nat → Int32)) (thn : (Nat → Int32)) (moved : Int32) (r : Int32) (cx : cx_ok p s m args meth c b_R_blockFor 4 o_R_blockFor "OrderedVolumeModel" (some .int) D cI cZ A) : ∀ (x1 : Int32) (t0 : Int32), s_R_blockFor_20 F mem x1 t0 = some r → wk_G p l e rm_R_blockFor s m args below meth c (sc_Qi below args s D cI cZ A (w_R cI cZ h_p0 h_p0_m h_p0_d h_p0_fresh h_p0_young h_p0_dropped h_p0_released h_p0_owed h_p0_counted h_p0_inMemory h_p0_onDisk h_p0_thn mem dsk fresh young dropped released owed counted inMemory onDisk thn moved) r) D A 4 20 [.int t0] [(0, .ref h_p0), (1, .int x1)] (w_R cI cZ h_p0 h_p0_m h_p0_d h_p0_fresh h_p0_young h_p0_dropped h_p0_released h_p0_owed h_p0_counted h_p0_inMemory h_p0_onDisk h_p0_thn mem dsk fresh young dropped released owed counted inMemory onDisk thn moved) := by
  obtain ⟨cf, hr, hlk, hK, hN, hA⟩ := cx
  have hx := cf.1
  have hb := cf.2.1
  have hown := cf.2.2.2.1
  have ht : ∀ w ∈ wA, w.before args s = true := fun w h => cf.2.2.2.2 w (List.mem_cons_of_mem _ h)
  intro x1 t0 h H locs ls hl hP hD hS
  unfold s_R_blockFor_20 at h
  refine lv_istore_n (lv' := [(3, .int t0), (0, .ref h_p0), (1, .int x1)]) hx hb d_R_blockFor_20 rfl hl (by decide) rfl (fun ls hl => ?_)
  refine lv_iload_n hx hb d_R_blockFor_21 rfl (lv_at hl 0 rfl) ?_
  refine lv_if_eq hx hb d_R_blockFor_22 rfl (fun hc => ?_) (fun hc => ?_)
  · rw [if_pos hc] at h
    exact w_R_blockFor_52 h_p0 h_p0_m h_p0_d h_p0_fresh h_p0_young h_p0_dropped h_p0_released h_p0_owed h_p0_counted h_p0_inMemory h_p0_onDisk h_p0_thn F mem dsk fresh young dropped released owed counted inMemory onDisk thn moved r ⟨cf, hr, hlk, hK, hN, hA⟩ x1 h H locs ls (lv_sub hl [1, 2] rfl) hP hD hS
  · rw [if_neg hc] at h
    refine lv_iload_n hx hb d_R_blockFor_25 rfl (lv_at hl 0 rfl) ?_
    refine lv_bipush (v := (nI 12)) hx hb d_R_blockFor_26 (by decide) ?_
    refine lv_irem hx hb d_R_blockFor_28 (by decide) ?_
    refine lv_bipush (v := (nI 11)) hx hb d_R_blockFor_29 (by decide) ?_
    refine lv_icmp_ge hx hb d_R_blockFor_31 rfl (fun hc => ?_) (fun hc => ?_)
    · rw [if_pos hc] at h
      exact w_R_blockFor_52 h_p0 h_p0_m h_p0_d h_p0_fresh h_p0_young h_p0_dropped h_p0_released h_p0_owed h_p0_counted h_p0_inMemory h_p0_onDisk h_p0_thn F mem dsk fresh young dropped released owed counted inMemory onDisk thn moved r ⟨cf, hr, hlk, hK, hN, hA⟩ x1 h H locs ls (lv_sub hl [1, 2] rfl) hP hD hS
    · rw [if_neg hc] at h
      refine lv_aload_n hx hb d_R_blockFor_34 rfl (lv_at hl 1 rfl) ?_
      refine va_get (D := D) (ci := 2) (v := .ref h_p0_m) (C := R_R) (T := F_R) (N := 12) hx hb ht in_R hown hK hP 0 rfl rfl 0 (by decide) (ht _ f_R_7) (fun _ h9 => h9) rfl d_R_blockFor_35 ?_
      refine lv_iload_n hx hb d_R_blockFor_38 rfl (lv_at hl 0 rfl) ?_
      refine lv_iconst (v := (nI 1)) hx hb d_R_blockFor_39 (by decide) ?_
      refine lv_iadd hx hb d_R_blockFor_40 ?_
      obtain ⟨r41, h41, h⟩ := bd_some h
      refine wk_Si (As := [.int (t0 + (nI 1))]) (rest := [.ref h_p0_m]) (wc := []) (w1 := []) (wr := [(h_p0, .inr (2, [.ref h_p0_m, .ref h_p0_d, .ref h_p0_fresh, .ref h_p0_young, .ref h_p0_dropped, .ref h_p0_released, .ref h_p0_owed, .ref h_p0_counted, .ref h_p0_inMemory, .ref h_p0_onDisk, .ref h_p0_thn, .int moved])), (h_p0_m, .inl (cI, 1080, .inl mem)), (h_p0_d, .inl (cI, 1080, .inl dsk)), (h_p0_fresh, .inl (cZ, 36, .inl fresh)), (h_p0_young, .inl (cZ, 288, .inl young)), (h_p0_dropped, .inl (cI, 36, .inl dropped)), (h_p0_released, .inl (cZ, 18, .inl released)), (h_p0_owed, .inl (cI, 18, .inl owed)), (h_p0_counted, .inl (cI, 18, .inl counted)), (h_p0_inMemory, .inl (cZ, 18, .inl inMemory)), (h_p0_onDisk, .inl (cZ, 18, .inl onDisk)), (h_p0_thn, .inl (cZ, 18, .inl thn))]) (wz := (w_R cI cZ h_p0 h_p0_m h_p0_d h_p0_fresh h_p0_young h_p0_dropped h_p0_released h_p0_owed h_p0_counted h_p0_inMemory h_p0_onDisk h_p0_thn mem dsk fresh young dropped released owed counted inMemory onDisk thn moved)) cf hK hN hA (c_R_markOfBlock l D cI cZ 0 (t0 + (nI 1)) r41 h41) k_R_52 ⟨rfl, rfl, by decide, by decide⟩ hl hP hD hS [] [0, 1, 2, 3, 4, 5, 6, 7, 8, 9, 10, 11] [0, 1, 2, 3, 4, 5, 6, 7, 8, 9, 10, 11] rfl rfl rfl (by decide) rfl rfl rfl rfl rfl (Nat.le_of_ble_eq_true rfl) rfl d_R_blockFor_41 (fun H locs hP hD hS => ?_)
      obtain ⟨hin, h⟩ := gr_some h
      refine va_iald hx hb hK hP 1 0 rfl rfl hin d_R_blockFor_44 ?_
      generalize mem r41.toNatClampNeg = v44 at h ⊢
      refine lv_if_ne hx hb d_R_blockFor_45 rfl (fun hc => ?_) (fun hc => ?_)
      · rw [if_neg hc] at h
        exact w_R_blockFor_52 h_p0 h_p0_m h_p0_d h_p0_fresh h_p0_young h_p0_dropped h_p0_released h_p0_owed h_p0_counted h_p0_inMemory h_p0_onDisk h_p0_thn F mem dsk fresh young dropped released owed counted inMemory onDisk thn moved r ⟨cf, hr, hlk, hK, hN, hA⟩ x1 h H locs ls (lv_sub hl [1, 2] rfl) hP hD hS
      · rw [if_pos hc] at h
        refine lv_iload_n hx hb d_R_blockFor_48 rfl (lv_at hl 0 rfl) ?_
        refine lv_iconst (v := (nI 1)) hx hb d_R_blockFor_49 (by decide) ?_
        refine lv_iadd hx hb d_R_blockFor_50 ?_
        cases h
        exact sc_iret cf hr hlk hK hP hD hS d_R_blockFor_51
set_option maxHeartbeats 4000000 in
set_option maxRecDepth 100000 in
theorem c_R_blockFor (l : Launch) (D : va_G) (cI cZ : ClassId) (h_p0 h_p0_m h_p0_d h_p0_fresh h_p0_young h_p0_dropped h_p0_released h_p0_owed h_p0_counted h_p0_inMemory h_p0_onDisk h_p0_thn : Nat) (F : Nat) (mem : (Nat → Int32)) (dsk : (Nat → Int32)) (fresh : (Nat → Int32)) (young : (Nat → Int32)) (dropped : (Nat → Int32)) (released : (Nat → Int32)) (owed : (Nat → Int32)) (counted : (Nat → Int32)) (inMemory : (Nat → Int32)) (onDisk : (Nat → Int32)) (thn : (Nat → Int32)) (moved : Int32) (x1 : Int32) (x2 : Int32) (r : Int32) (h : s_R_blockFor F mem x1 x2 = some r) : sc_i l y_R_blockFor (o_R_blockFor :: wA) rm_R_blockFor D cI cZ [.ref h_p0, .int x1, .int x2] (w_R cI cZ h_p0 h_p0_m h_p0_d h_p0_fresh h_p0_young h_p0_dropped h_p0_released h_p0_owed h_p0_counted h_p0_inMemory h_p0_onDisk h_p0_thn mem dsk fresh young dropped released owed counted inMemory onDisk thn moved) (w_R cI cZ h_p0 h_p0_m h_p0_d h_p0_fresh h_p0_young h_p0_dropped h_p0_released h_p0_owed h_p0_counted h_p0_inMemory h_p0_onDisk h_p0_thn mem dsk fresh young dropped released owed counted inMemory onDisk thn moved) r := by
  refine sc_i_of (cc := b_R_blockFor) (maxL := 4) (ret := (some .int)) (by decide) rfl (Nat.le_of_ble_eq_true rfl) ?_
  intro p e s m below meth c A cf hr hlk hK hN hA H locs ls hl hP hD hS
  have hx := cf.1
  have hb := cf.2.1
  have hown := cf.2.2.2.1
  have ht : ∀ w ∈ wA, w.before _ s = true := fun w h => cf.2.2.2.2 w (List.mem_cons_of_mem _ h)
  unfold s_R_blockFor at h
  have hl : lv_has ls 4 [(0, .ref h_p0), (1, .int x1), (2, .int x2)] := hl
  refine lv_iload_n hx hb d_R_blockFor_0 rfl (lv_at hl 2 rfl) ?_
  refine lv_if_le hx hb d_R_blockFor_1 rfl (fun hc => ?_) (fun hc => ?_)
  · rw [if_pos hc] at h
    refine lv_iconst (v := (nI 0)) hx hb d_R_blockFor_19 (by decide) ?_
    exact w_R_blockFor_20 h_p0 h_p0_m h_p0_d h_p0_fresh h_p0_young h_p0_dropped h_p0_released h_p0_owed h_p0_counted h_p0_inMemory h_p0_onDisk h_p0_thn F mem dsk fresh young dropped released owed counted inMemory onDisk thn moved r ⟨cf, hr, hlk, hK, hN, hA⟩ x1 (nI 0) h H locs ls (lv_sub hl [0, 1] rfl) hP hD hS
  · rw [if_neg hc] at h
    refine lv_aload_n hx hb d_R_blockFor_4 rfl (lv_at hl 0 rfl) ?_
    refine va_get (D := D) (ci := 2) (v := .ref h_p0_m) (C := R_R) (T := F_R) (N := 12) hx hb ht in_R hown hK hP 0 rfl rfl 0 (by decide) (ht _ f_R_7) (fun _ h9 => h9) rfl d_R_blockFor_5 ?_
    refine lv_iload_n hx hb d_R_blockFor_8 rfl (lv_at hl 1 rfl) ?_
    refine lv_iconst (v := (nI 1)) hx hb d_R_blockFor_9 (by decide) ?_
    refine lv_iload_n hx hb d_R_blockFor_10 rfl (lv_at hl 2 rfl) ?_
    refine lv_iadd hx hb d_R_blockFor_11 ?_
    obtain ⟨r12, h12, h⟩ := bd_some h
    refine wk_Si (As := [.int x1, .int ((nI 1) + x2)]) (rest := [.ref h_p0_m]) (wc := []) (w1 := []) (wr := [(h_p0, .inr (2, [.ref h_p0_m, .ref h_p0_d, .ref h_p0_fresh, .ref h_p0_young, .ref h_p0_dropped, .ref h_p0_released, .ref h_p0_owed, .ref h_p0_counted, .ref h_p0_inMemory, .ref h_p0_onDisk, .ref h_p0_thn, .int moved])), (h_p0_m, .inl (cI, 1080, .inl mem)), (h_p0_d, .inl (cI, 1080, .inl dsk)), (h_p0_fresh, .inl (cZ, 36, .inl fresh)), (h_p0_young, .inl (cZ, 288, .inl young)), (h_p0_dropped, .inl (cI, 36, .inl dropped)), (h_p0_released, .inl (cZ, 18, .inl released)), (h_p0_owed, .inl (cI, 18, .inl owed)), (h_p0_counted, .inl (cI, 18, .inl counted)), (h_p0_inMemory, .inl (cZ, 18, .inl inMemory)), (h_p0_onDisk, .inl (cZ, 18, .inl onDisk)), (h_p0_thn, .inl (cZ, 18, .inl thn))]) (wz := (w_R cI cZ h_p0 h_p0_m h_p0_d h_p0_fresh h_p0_young h_p0_dropped h_p0_released h_p0_owed h_p0_counted h_p0_inMemory h_p0_onDisk h_p0_thn mem dsk fresh young dropped released owed counted inMemory onDisk thn moved)) cf hK hN hA (c_R_at l D cI cZ 0 x1 ((nI 1) + x2) r12 h12) k_R_44 ⟨rfl, rfl, by decide, by decide⟩ hl hP hD hS [] [0, 1, 2, 3, 4, 5, 6, 7, 8, 9, 10, 11] [0, 1, 2, 3, 4, 5, 6, 7, 8, 9, 10, 11] rfl rfl rfl (by decide) rfl rfl rfl rfl rfl (Nat.le_of_ble_eq_true rfl) rfl d_R_blockFor_12 (fun H locs hP hD hS => ?_)
    obtain ⟨hin, h⟩ := gr_some h
    refine va_iald hx hb hK hP 1 0 rfl rfl hin d_R_blockFor_15 ?_
    generalize mem r12.toNatClampNeg = v15 at h ⊢
    refine lv_goto hx hb d_R_blockFor_16 rfl ?_
    exact w_R_blockFor_20 h_p0 h_p0_m h_p0_d h_p0_fresh h_p0_young h_p0_dropped h_p0_released h_p0_owed h_p0_counted h_p0_inMemory h_p0_onDisk h_p0_thn F mem dsk fresh young dropped released owed counted inMemory onDisk thn moved r ⟨cf, hr, hlk, hK, hN, hA⟩ x1 v15 h H locs ls (lv_sub hl [0, 1] rfl) hP hD hS
set_option maxHeartbeats 4000000 in
set_option maxRecDepth 100000 in
theorem w_R_within_26 {p : Program} {l : Launch} {e : Env} {s : State} {m : MethodId} {args : Array Value} {below : List Frame} {meth : Method} {c : Code} {D : va_G} {cI cZ : ClassId} {A : Nat → Prop} (h_p0 h_p0_m h_p0_d h_p0_fresh h_p0_young h_p0_dropped h_p0_released h_p0_owed h_p0_counted h_p0_inMemory h_p0_onDisk h_p0_thn : Nat) (mem : (Nat → Int32)) (dsk : (Nat → Int32)) (fresh : (Nat → Int32)) (young : (Nat → Int32)) (dropped : (Nat → Int32)) (released : (Nat → Int32)) (owed : (Nat → Int32)) (counted : (Nat → Int32)) (inMemory : (Nat → Int32)) (onDisk : (Nat → Int32)) (thn : (Nat → Int32)) (moved : Int32) (r : Int32) (cx : cx_ok p s m args meth c b_R_within 3 o_R_within "OrderedVolumeModel" (some .boolean) D cI cZ A) : s_R_within_26 = some r → wk_G p l e rm_R_within s m args below meth c (sc_Qi below args s D cI cZ A (w_R cI cZ h_p0 h_p0_m h_p0_d h_p0_fresh h_p0_young h_p0_dropped h_p0_released h_p0_owed h_p0_counted h_p0_inMemory h_p0_onDisk h_p0_thn mem dsk fresh young dropped released owed counted inMemory onDisk thn moved) r) D A 3 26 [] [(0, .ref h_p0)] (w_R cI cZ h_p0 h_p0_m h_p0_d h_p0_fresh h_p0_young h_p0_dropped h_p0_released h_p0_owed h_p0_counted h_p0_inMemory h_p0_onDisk h_p0_thn mem dsk fresh young dropped released owed counted inMemory onDisk thn moved) := by
  obtain ⟨cf, hr, hlk, hK, hN, hA⟩ := cx
  have hx := cf.1
  have hb := cf.2.1
  have hown := cf.2.2.2.1
  have ht : ∀ w ∈ wA, w.before args s = true := fun w h => cf.2.2.2.2 w (List.mem_cons_of_mem _ h)
  intro  h H locs ls hl hP hD hS
  unfold s_R_within_26 at h
  refine lv_iconst (v := (nI 0)) hx hb d_R_within_26 (by decide) ?_
  have hz : ((nI 0) : Int32) = 0 ∨ ((nI 0) : Int32) = 1 := by decide
  cases h
  exact sc_zret cf hr hlk hz hK hP hD hS d_R_within_27
set_option maxHeartbeats 4000000 in
set_option maxRecDepth 100000 in
theorem c_R_within (l : Launch) (D : va_G) (cI cZ : ClassId) (h_p0 h_p0_m h_p0_d h_p0_fresh h_p0_young h_p0_dropped h_p0_released h_p0_owed h_p0_counted h_p0_inMemory h_p0_onDisk h_p0_thn : Nat) (mem : (Nat → Int32)) (dsk : (Nat → Int32)) (fresh : (Nat → Int32)) (young : (Nat → Int32)) (dropped : (Nat → Int32)) (released : (Nat → Int32)) (owed : (Nat → Int32)) (counted : (Nat → Int32)) (inMemory : (Nat → Int32)) (onDisk : (Nat → Int32)) (thn : (Nat → Int32)) (moved : Int32) (x1 : Int32) (x2 : Int32) (r : Int32) (h : s_R_within x1 x2 = some r) : sc_i l y_R_within (o_R_within :: wA) rm_R_within D cI cZ [.ref h_p0, .int x1, .int x2] (w_R cI cZ h_p0 h_p0_m h_p0_d h_p0_fresh h_p0_young h_p0_dropped h_p0_released h_p0_owed h_p0_counted h_p0_inMemory h_p0_onDisk h_p0_thn mem dsk fresh young dropped released owed counted inMemory onDisk thn moved) (w_R cI cZ h_p0 h_p0_m h_p0_d h_p0_fresh h_p0_young h_p0_dropped h_p0_released h_p0_owed h_p0_counted h_p0_inMemory h_p0_onDisk h_p0_thn mem dsk fresh young dropped released owed counted inMemory onDisk thn moved) r := by
  refine sc_i_of (cc := b_R_within) (maxL := 3) (ret := (some .boolean)) (by decide) rfl (Nat.le_of_ble_eq_true rfl) ?_
  intro p e s m below meth c A cf hr hlk hK hN hA H locs ls hl hP hD hS
  have hx := cf.1
  have hb := cf.2.1
  have hown := cf.2.2.2.1
  have ht : ∀ w ∈ wA, w.before _ s = true := fun w h => cf.2.2.2.2 w (List.mem_cons_of_mem _ h)
  unfold s_R_within at h
  have hl : lv_has ls 3 [(0, .ref h_p0), (1, .int x1), (2, .int x2)] := hl
  refine lv_iload_n hx hb d_R_within_0 rfl (lv_at hl 1 rfl) ?_
  refine lv_if_lt hx hb d_R_within_1 rfl (fun hc => ?_) (fun hc => ?_)
  · rw [if_pos hc] at h
    exact w_R_within_26 h_p0 h_p0_m h_p0_d h_p0_fresh h_p0_young h_p0_dropped h_p0_released h_p0_owed h_p0_counted h_p0_inMemory h_p0_onDisk h_p0_thn mem dsk fresh young dropped released owed counted inMemory onDisk thn moved r ⟨cf, hr, hlk, hK, hN, hA⟩ h H locs ls (lv_sub hl [0] rfl) hP hD hS
  · rw [if_neg hc] at h
    refine lv_iload_n hx hb d_R_within_4 rfl (lv_at hl 1 rfl) ?_
    refine lv_bipush (v := (nI 36)) hx hb d_R_within_5 (by decide) ?_
    refine lv_icmp_ge hx hb d_R_within_7 rfl (fun hc => ?_) (fun hc => ?_)
    · rw [if_pos hc] at h
      exact w_R_within_26 h_p0 h_p0_m h_p0_d h_p0_fresh h_p0_young h_p0_dropped h_p0_released h_p0_owed h_p0_counted h_p0_inMemory h_p0_onDisk h_p0_thn mem dsk fresh young dropped released owed counted inMemory onDisk thn moved r ⟨cf, hr, hlk, hK, hN, hA⟩ h H locs ls (lv_sub hl [0] rfl) hP hD hS
    · rw [if_neg hc] at h
      refine lv_iload_n hx hb d_R_within_10 rfl (lv_at hl 2 rfl) ?_
      refine lv_if_lt hx hb d_R_within_11 rfl (fun hc => ?_) (fun hc => ?_)
      · rw [if_pos hc] at h
        exact w_R_within_26 h_p0 h_p0_m h_p0_d h_p0_fresh h_p0_young h_p0_dropped h_p0_released h_p0_owed h_p0_counted h_p0_inMemory h_p0_onDisk h_p0_thn mem dsk fresh young dropped released owed counted inMemory onDisk thn moved r ⟨cf, hr, hlk, hK, hN, hA⟩ h H locs ls (lv_sub hl [0] rfl) hP hD hS
      · rw [if_neg hc] at h
        refine lv_iload_n hx hb d_R_within_14 rfl (lv_at hl 2 rfl) ?_
        refine lv_iload_n hx hb d_R_within_15 rfl (lv_at hl 1 rfl) ?_
        obtain ⟨r16, h16, h⟩ := bd_some h
        refine wk_Si (As := [.int x1]) (rest := [.int x2]) (wc := []) (w1 := []) (wr := [(h_p0, .inr (2, [.ref h_p0_m, .ref h_p0_d, .ref h_p0_fresh, .ref h_p0_young, .ref h_p0_dropped, .ref h_p0_released, .ref h_p0_owed, .ref h_p0_counted, .ref h_p0_inMemory, .ref h_p0_onDisk, .ref h_p0_thn, .int moved])), (h_p0_m, .inl (cI, 1080, .inl mem)), (h_p0_d, .inl (cI, 1080, .inl dsk)), (h_p0_fresh, .inl (cZ, 36, .inl fresh)), (h_p0_young, .inl (cZ, 288, .inl young)), (h_p0_dropped, .inl (cI, 36, .inl dropped)), (h_p0_released, .inl (cZ, 18, .inl released)), (h_p0_owed, .inl (cI, 18, .inl owed)), (h_p0_counted, .inl (cI, 18, .inl counted)), (h_p0_inMemory, .inl (cZ, 18, .inl inMemory)), (h_p0_onDisk, .inl (cZ, 18, .inl onDisk)), (h_p0_thn, .inl (cZ, 18, .inl thn))]) (wz := (w_R cI cZ h_p0 h_p0_m h_p0_d h_p0_fresh h_p0_young h_p0_dropped h_p0_released h_p0_owed h_p0_counted h_p0_inMemory h_p0_onDisk h_p0_thn mem dsk fresh young dropped released owed counted inMemory onDisk thn moved)) cf hK hN hA (c_R_size l D cI cZ 0 x1 r16 h16) k_R_55 ⟨rfl, rfl, by decide, by decide⟩ hl hP hD hS [] [0, 1, 2, 3, 4, 5, 6, 7, 8, 9, 10, 11] [0, 1, 2, 3, 4, 5, 6, 7, 8, 9, 10, 11] rfl rfl rfl (by decide) rfl rfl rfl rfl rfl (Nat.le_of_ble_eq_true rfl) rfl d_R_within_16 (fun H locs hP hD hS => ?_)
        refine lv_icmp_ge hx hb d_R_within_19 rfl (fun hc => ?_) (fun hc => ?_)
        · rw [if_pos hc] at h
          exact w_R_within_26 h_p0 h_p0_m h_p0_d h_p0_fresh h_p0_young h_p0_dropped h_p0_released h_p0_owed h_p0_counted h_p0_inMemory h_p0_onDisk h_p0_thn mem dsk fresh young dropped released owed counted inMemory onDisk thn moved r ⟨cf, hr, hlk, hK, hN, hA⟩ h H locs ls (lv_sub hl [0] rfl) hP hD hS
        · rw [if_neg hc] at h
          refine lv_iconst (v := (nI 1)) hx hb d_R_within_22 (by decide) ?_
          refine lv_goto hx hb d_R_within_23 rfl ?_
          have hz : ((nI 1) : Int32) = 0 ∨ ((nI 1) : Int32) = 1 := by decide
          cases h
          exact sc_zret cf hr hlk hz hK hP hD hS d_R_within_27
set_option maxHeartbeats 4000000 in
set_option maxRecDepth 100000 in
theorem c_R_cached (l : Launch) (D : va_G) (cI cZ : ClassId) (h_p0 h_p0_m h_p0_d h_p0_fresh h_p0_young h_p0_dropped h_p0_released h_p0_owed h_p0_counted h_p0_inMemory h_p0_onDisk h_p0_thn : Nat) (mem : (Nat → Int32)) (dsk : (Nat → Int32)) (fresh : (Nat → Int32)) (young : (Nat → Int32)) (dropped : (Nat → Int32)) (released : (Nat → Int32)) (owed : (Nat → Int32)) (counted : (Nat → Int32)) (inMemory : (Nat → Int32)) (onDisk : (Nat → Int32)) (thn : (Nat → Int32)) (moved : Int32) (x1 : Int32) (x2 : Int32) (r : Int32) (h : s_R_cached mem x1 x2 = some r) : sc_i l y_R_cached (o_R_cached :: wA) rm_R_cached D cI cZ [.ref h_p0, .int x1, .int x2] (w_R cI cZ h_p0 h_p0_m h_p0_d h_p0_fresh h_p0_young h_p0_dropped h_p0_released h_p0_owed h_p0_counted h_p0_inMemory h_p0_onDisk h_p0_thn mem dsk fresh young dropped released owed counted inMemory onDisk thn moved) (w_R cI cZ h_p0 h_p0_m h_p0_d h_p0_fresh h_p0_young h_p0_dropped h_p0_released h_p0_owed h_p0_counted h_p0_inMemory h_p0_onDisk h_p0_thn mem dsk fresh young dropped released owed counted inMemory onDisk thn moved) r := by
  refine sc_i_of (cc := b_R_cached) (maxL := 3) (ret := (some .int)) (by decide) rfl (Nat.le_of_ble_eq_true rfl) ?_
  intro p e s m below meth c A cf hr hlk hK hN hA H locs ls hl hP hD hS
  have hx := cf.1
  have hb := cf.2.1
  have hown := cf.2.2.2.1
  have ht : ∀ w ∈ wA, w.before _ s = true := fun w h => cf.2.2.2.2 w (List.mem_cons_of_mem _ h)
  unfold s_R_cached at h
  have hl : lv_has ls 3 [(0, .ref h_p0), (1, .int x1), (2, .int x2)] := hl
  refine lv_aload_n hx hb d_R_cached_0 rfl (lv_at hl 0 rfl) ?_
  refine lv_iload_n hx hb d_R_cached_1 rfl (lv_at hl 1 rfl) ?_
  refine lv_iload_n hx hb d_R_cached_2 rfl (lv_at hl 2 rfl) ?_
  obtain ⟨r3, h3, h⟩ := bd_some h
  refine wk_Vi (As := [.int x1, .int x2]) (rest := []) (wc := (w_R cI cZ h_p0 h_p0_m h_p0_d h_p0_fresh h_p0_young h_p0_dropped h_p0_released h_p0_owed h_p0_counted h_p0_inMemory h_p0_onDisk h_p0_thn mem dsk fresh young dropped released owed counted inMemory onDisk thn moved)) (w1 := (w_R cI cZ h_p0 h_p0_m h_p0_d h_p0_fresh h_p0_young h_p0_dropped h_p0_released h_p0_owed h_p0_counted h_p0_inMemory h_p0_onDisk h_p0_thn mem dsk fresh young dropped released owed counted inMemory onDisk thn moved)) (wr := []) (wz := (w_R cI cZ h_p0 h_p0_m h_p0_d h_p0_fresh h_p0_young h_p0_dropped h_p0_released h_p0_owed h_p0_counted h_p0_inMemory h_p0_onDisk h_p0_thn mem dsk fresh young dropped released owed counted inMemory onDisk thn moved)) cf hK hN hA (c_R_within l D cI cZ h_p0 h_p0_m h_p0_d h_p0_fresh h_p0_young h_p0_dropped h_p0_released h_p0_owed h_p0_counted h_p0_inMemory h_p0_onDisk h_p0_thn mem dsk fresh young dropped released owed counted inMemory onDisk thn moved x1 x2 r3 h3) k_R_179 ⟨rfl, rfl, by decide, by decide⟩ 2 rfl rfl rfl hl hP hD hS [0, 1, 2, 3, 4, 5, 6, 7, 8, 9, 10, 11] [] [0, 1, 2, 3, 4, 5, 6, 7, 8, 9, 10, 11] rfl rfl rfl (by decide) rfl rfl rfl rfl rfl (Nat.le_of_ble_eq_true rfl) rfl d_R_cached_3 (fun H locs hP hD hS => ?_)
  refine lv_if_eq hx hb d_R_cached_6 rfl (fun hc => ?_) (fun hc => ?_)
  · rw [if_pos hc] at h
    refine lv_iconst (v := (nI 0)) hx hb d_R_cached_23 (by decide) ?_
    cases h
    exact sc_iret cf hr hlk hK hP hD hS d_R_cached_24
  · rw [if_neg hc] at h
    refine lv_aload_n hx hb d_R_cached_9 rfl (lv_at hl 0 rfl) ?_
    refine va_get (D := D) (ci := 2) (v := .ref h_p0_m) (C := R_R) (T := F_R) (N := 12) hx hb ht in_R hown hK hP 0 rfl rfl 0 (by decide) (ht _ f_R_7) (fun _ h9 => h9) rfl d_R_cached_10 ?_
    refine lv_bipush (v := (nI 30)) hx hb d_R_cached_13 (by decide) ?_
    refine lv_iload_n hx hb d_R_cached_15 rfl (lv_at hl 1 rfl) ?_
    refine lv_imul hx hb d_R_cached_16 ?_
    refine lv_iload_n hx hb d_R_cached_17 rfl (lv_at hl 2 rfl) ?_
    refine lv_iadd hx hb d_R_cached_18 ?_
    obtain ⟨hin, h⟩ := gr_some h
    refine va_iald hx hb hK hP 1 0 rfl rfl hin d_R_cached_19 ?_
    generalize mem (((nI 30) * x1) + x2).toNatClampNeg = v19 at h ⊢
    refine lv_goto hx hb d_R_cached_20 rfl ?_
    cases h
    exact sc_iret cf hr hlk hK hP hD hS d_R_cached_24
set_option maxHeartbeats 4000000 in
set_option maxRecDepth 100000 in
theorem c_R_seen (l : Launch) (D : va_G) (cI cZ : ClassId) (h_p0 h_p0_m h_p0_d h_p0_fresh h_p0_young h_p0_dropped h_p0_released h_p0_owed h_p0_counted h_p0_inMemory h_p0_onDisk h_p0_thn : Nat) (mem : (Nat → Int32)) (dsk : (Nat → Int32)) (fresh : (Nat → Int32)) (young : (Nat → Int32)) (dropped : (Nat → Int32)) (released : (Nat → Int32)) (owed : (Nat → Int32)) (counted : (Nat → Int32)) (inMemory : (Nat → Int32)) (onDisk : (Nat → Int32)) (thn : (Nat → Int32)) (moved : Int32) (x1 : Int32) (x2 : Int32) (r : Int32) (h : s_R_seen dsk fresh x1 x2 = some r) : sc_i l y_R_seen (o_R_seen :: wA) rm_R_seen D cI cZ [.ref h_p0, .int x1, .int x2] (w_R cI cZ h_p0 h_p0_m h_p0_d h_p0_fresh h_p0_young h_p0_dropped h_p0_released h_p0_owed h_p0_counted h_p0_inMemory h_p0_onDisk h_p0_thn mem dsk fresh young dropped released owed counted inMemory onDisk thn moved) (w_R cI cZ h_p0 h_p0_m h_p0_d h_p0_fresh h_p0_young h_p0_dropped h_p0_released h_p0_owed h_p0_counted h_p0_inMemory h_p0_onDisk h_p0_thn mem dsk fresh young dropped released owed counted inMemory onDisk thn moved) r := by
  refine sc_i_of (cc := b_R_seen) (maxL := 3) (ret := (some .int)) (by decide) rfl (Nat.le_of_ble_eq_true rfl) ?_
  intro p e s m below meth c A cf hr hlk hK hN hA H locs ls hl hP hD hS
  have hx := cf.1
  have hb := cf.2.1
  have hown := cf.2.2.2.1
  have ht : ∀ w ∈ wA, w.before _ s = true := fun w h => cf.2.2.2.2 w (List.mem_cons_of_mem _ h)
  unfold s_R_seen at h
  have hl : lv_has ls 3 [(0, .ref h_p0), (1, .int x1), (2, .int x2)] := hl
  refine lv_aload_n hx hb d_R_seen_0 rfl (lv_at hl 0 rfl) ?_
  refine va_get (D := D) (ci := 2) (v := .ref h_p0_fresh) (C := R_R) (T := F_R) (N := 12) hx hb ht in_R hown hK hP 0 rfl rfl 2 (by decide) (ht _ f_R_16) (fun _ h9 => h9) rfl d_R_seen_1 ?_
  refine lv_iload_n hx hb d_R_seen_4 rfl (lv_at hl 1 rfl) ?_
  obtain ⟨hin, h⟩ := gr_some h
  refine va_zald hx hb hK hP 3 1 rfl rfl hin d_R_seen_5 ?_
  generalize fresh x1.toNatClampNeg = v5 at h ⊢
  refine lv_if_eq hx hb d_R_seen_6 rfl (fun hc => ?_) (fun hc => ?_)
  · rw [if_pos hc] at h
    refine lv_aload_n hx hb d_R_seen_13 rfl (lv_at hl 0 rfl) ?_
    refine va_get (D := D) (ci := 2) (v := .ref h_p0_d) (C := R_R) (T := F_R) (N := 12) hx hb ht in_R hown hK hP 0 rfl rfl 1 (by decide) (ht _ f_R_13) (fun _ h9 => h9) rfl d_R_seen_14 ?_
    refine lv_bipush (v := (nI 30)) hx hb d_R_seen_17 (by decide) ?_
    refine lv_iload_n hx hb d_R_seen_19 rfl (lv_at hl 1 rfl) ?_
    refine lv_imul hx hb d_R_seen_20 ?_
    refine lv_iload_n hx hb d_R_seen_21 rfl (lv_at hl 2 rfl) ?_
    refine lv_iadd hx hb d_R_seen_22 ?_
    obtain ⟨hin, h⟩ := gr_some h
    refine va_iald hx hb hK hP 2 0 rfl rfl hin d_R_seen_23 ?_
    generalize dsk (((nI 30) * x1) + x2).toNatClampNeg = v23 at h ⊢
    cases h
    exact sc_iret cf hr hlk hK hP hD hS d_R_seen_24
  · rw [if_neg hc] at h
    refine lv_iconst (v := (nI 0)) hx hb d_R_seen_9 (by decide) ?_
    refine lv_goto hx hb d_R_seen_10 rfl ?_
    cases h
    exact sc_iret cf hr hlk hK hP hD hS d_R_seen_24
set_option maxHeartbeats 4000000 in
set_option maxRecDepth 100000 in
theorem w_R_drop_43 {p : Program} {l : Launch} {e : Env} {s : State} {m : MethodId} {args : Array Value} {below : List Frame} {meth : Method} {c : Code} {D : va_G} {cI cZ : ClassId} {A : Nat → Prop} (h_p0 h_p0_m h_p0_d h_p0_fresh h_p0_young h_p0_dropped h_p0_released h_p0_owed h_p0_counted h_p0_inMemory h_p0_onDisk h_p0_thn : Nat) (dsk : (Nat → Int32)) (fresh : (Nat → Int32)) (young : (Nat → Int32)) (released : (Nat → Int32)) (owed : (Nat → Int32)) (counted : (Nat → Int32)) (inMemory : (Nat → Int32)) (onDisk : (Nat → Int32)) (thn : (Nat → Int32)) (moved : Int32) (dropped' : (Nat → Int32)) (mem' : (Nat → Int32)) (r : Int32) (cx : cx_ok p s m args meth c b_R_drop 4 o_R_drop "OrderedVolumeModel" (some .int) D cI cZ A) : ∀ (x1 : Int32) (x2 : Int32) (t1 : Int32) (t2 : Int32) (dropped : (Nat → Int32)) (mem : (Nat → Int32)), s_R_drop_43 x1 x2 t1 t2 dropped mem = some (r, dropped', mem') → wk_G p l e rm_R_drop s m args below meth c (sc_Qi below args s D cI cZ A (w_R cI cZ h_p0 h_p0_m h_p0_d h_p0_fresh h_p0_young h_p0_dropped h_p0_released h_p0_owed h_p0_counted h_p0_inMemory h_p0_onDisk h_p0_thn (mem') dsk fresh young (dropped') released owed counted inMemory onDisk thn moved) r) D A 4 43 [.int t2, .int t1, .ref h_p0_dropped] [(0, .ref h_p0), (1, .int x1), (2, .int x2)] (w_R cI cZ h_p0 h_p0_m h_p0_d h_p0_fresh h_p0_young h_p0_dropped h_p0_released h_p0_owed h_p0_counted h_p0_inMemory h_p0_onDisk h_p0_thn mem dsk fresh young dropped released owed counted inMemory onDisk thn moved) := by
  obtain ⟨cf, hr, hlk, hK, hN, hA⟩ := cx
  have hx := cf.1
  have hb := cf.2.1
  have hown := cf.2.2.2.1
  have ht : ∀ w ∈ wA, w.before args s = true := fun w h => cf.2.2.2.2 w (List.mem_cons_of_mem _ h)
  intro x1 x2 t1 t2 dropped mem h H locs ls hl hP hD hS
  unfold s_R_drop_43 at h
  obtain ⟨hin, h⟩ := ga_some h
  refine va_iast hx hb hK hP hD hS 5 0 rfl rfl hin d_R_drop_43 (fun H locs hP hD hS => ?_)
  have hP : va_P D clA (w_R cI cZ h_p0 h_p0_m h_p0_d h_p0_fresh h_p0_young h_p0_dropped h_p0_released h_p0_owed h_p0_counted h_p0_inMemory h_p0_onDisk h_p0_thn mem dsk fresh young (upd dropped t1.toNatClampNeg t2) released owed counted inMemory onDisk thn moved) H := hP
  have hD : va_D A (w_R cI cZ h_p0 h_p0_m h_p0_d h_p0_fresh h_p0_young h_p0_dropped h_p0_released h_p0_owed h_p0_counted h_p0_inMemory h_p0_onDisk h_p0_thn mem dsk fresh young (upd dropped t1.toNatClampNeg t2) released owed counted inMemory onDisk thn moved) := hD
  refine lv_aload_n hx hb d_R_drop_44 rfl (lv_at hl 0 rfl) ?_
  refine va_get (D := D) (ci := 2) (v := .ref h_p0_m) (C := R_R) (T := F_R) (N := 12) hx hb ht in_R hown hK hP 0 rfl rfl 0 (by decide) (ht _ f_R_7) (fun _ h9 => h9) rfl d_R_drop_45 ?_
  refine lv_iload_n hx hb d_R_drop_48 rfl (lv_at hl 1 rfl) ?_
  refine lv_iconst (v := (nI 2)) hx hb d_R_drop_49 (by decide) ?_
  refine lv_iload_n hx hb d_R_drop_50 rfl (lv_at hl 2 rfl) ?_
  refine lv_iadd hx hb d_R_drop_51 ?_
  obtain ⟨r52, h52, h⟩ := bd_some h
  refine wk_Si (As := [.int x1, .int ((nI 2) + x2)]) (rest := [.ref h_p0_m]) (wc := []) (w1 := []) (wr := [(h_p0, .inr (2, [.ref h_p0_m, .ref h_p0_d, .ref h_p0_fresh, .ref h_p0_young, .ref h_p0_dropped, .ref h_p0_released, .ref h_p0_owed, .ref h_p0_counted, .ref h_p0_inMemory, .ref h_p0_onDisk, .ref h_p0_thn, .int moved])), (h_p0_m, .inl (cI, 1080, .inl mem)), (h_p0_d, .inl (cI, 1080, .inl dsk)), (h_p0_fresh, .inl (cZ, 36, .inl fresh)), (h_p0_young, .inl (cZ, 288, .inl young)), (h_p0_dropped, .inl (cI, 36, .inl (upd dropped t1.toNatClampNeg t2))), (h_p0_released, .inl (cZ, 18, .inl released)), (h_p0_owed, .inl (cI, 18, .inl owed)), (h_p0_counted, .inl (cI, 18, .inl counted)), (h_p0_inMemory, .inl (cZ, 18, .inl inMemory)), (h_p0_onDisk, .inl (cZ, 18, .inl onDisk)), (h_p0_thn, .inl (cZ, 18, .inl thn))]) (wz := (w_R cI cZ h_p0 h_p0_m h_p0_d h_p0_fresh h_p0_young h_p0_dropped h_p0_released h_p0_owed h_p0_counted h_p0_inMemory h_p0_onDisk h_p0_thn mem dsk fresh young (upd dropped t1.toNatClampNeg t2) released owed counted inMemory onDisk thn moved)) cf hK hN hA (c_R_at l D cI cZ 0 x1 ((nI 2) + x2) r52 h52) k_R_44 ⟨rfl, rfl, by decide, by decide⟩ hl hP hD hS [] [0, 1, 2, 3, 4, 5, 6, 7, 8, 9, 10, 11] [0, 1, 2, 3, 4, 5, 6, 7, 8, 9, 10, 11] rfl rfl rfl (by decide) rfl rfl rfl rfl rfl (Nat.le_of_ble_eq_true rfl) rfl d_R_drop_52 (fun H locs hP hD hS => ?_)
  refine lv_iconst (v := (nI 0)) hx hb d_R_drop_55 (by decide) ?_
  obtain ⟨hin, h⟩ := ga_some h
  refine va_iast hx hb hK hP hD hS 1 0 rfl rfl hin d_R_drop_56 (fun H locs hP hD hS => ?_)
  have hP : va_P D clA (w_R cI cZ h_p0 h_p0_m h_p0_d h_p0_fresh h_p0_young h_p0_dropped h_p0_released h_p0_owed h_p0_counted h_p0_inMemory h_p0_onDisk h_p0_thn (upd mem r52.toNatClampNeg (nI 0)) dsk fresh young (upd dropped t1.toNatClampNeg t2) released owed counted inMemory onDisk thn moved) H := hP
  have hD : va_D A (w_R cI cZ h_p0 h_p0_m h_p0_d h_p0_fresh h_p0_young h_p0_dropped h_p0_released h_p0_owed h_p0_counted h_p0_inMemory h_p0_onDisk h_p0_thn (upd mem r52.toNatClampNeg (nI 0)) dsk fresh young (upd dropped t1.toNatClampNeg t2) released owed counted inMemory onDisk thn moved) := hD
  refine lv_iconst (v := (nI 1)) hx hb d_R_drop_57 (by decide) ?_
  cases h
  exact sc_iret cf hr hlk hK hP hD hS d_R_drop_58
set_option maxHeartbeats 4000000 in
set_option maxRecDepth 100000 in
theorem c_R_drop (l : Launch) (D : va_G) (cI cZ : ClassId) (h_p0 h_p0_m h_p0_d h_p0_fresh h_p0_young h_p0_dropped h_p0_released h_p0_owed h_p0_counted h_p0_inMemory h_p0_onDisk h_p0_thn : Nat) (mem : (Nat → Int32)) (dsk : (Nat → Int32)) (fresh : (Nat → Int32)) (young : (Nat → Int32)) (dropped : (Nat → Int32)) (released : (Nat → Int32)) (owed : (Nat → Int32)) (counted : (Nat → Int32)) (inMemory : (Nat → Int32)) (onDisk : (Nat → Int32)) (thn : (Nat → Int32)) (moved : Int32) (dropped' : (Nat → Int32)) (mem' : (Nat → Int32)) (x1 : Int32) (x2 : Int32) (r : Int32) (h : s_R_drop x1 x2 dropped mem = some (r, dropped', mem')) : sc_i l y_R_drop (o_R_drop :: wA) rm_R_drop D cI cZ [.ref h_p0, .int x1, .int x2] (w_R cI cZ h_p0 h_p0_m h_p0_d h_p0_fresh h_p0_young h_p0_dropped h_p0_released h_p0_owed h_p0_counted h_p0_inMemory h_p0_onDisk h_p0_thn mem dsk fresh young dropped released owed counted inMemory onDisk thn moved) (w_R cI cZ h_p0 h_p0_m h_p0_d h_p0_fresh h_p0_young h_p0_dropped h_p0_released h_p0_owed h_p0_counted h_p0_inMemory h_p0_onDisk h_p0_thn (mem') dsk fresh young (dropped') released owed counted inMemory onDisk thn moved) r := by
  refine sc_i_of (cc := b_R_drop) (maxL := 4) (ret := (some .int)) (by decide) rfl (Nat.le_of_ble_eq_true rfl) ?_
  intro p e s m below meth c A cf hr hlk hK hN hA H locs ls hl hP hD hS
  have hx := cf.1
  have hb := cf.2.1
  have hown := cf.2.2.2.1
  have ht : ∀ w ∈ wA, w.before _ s = true := fun w h => cf.2.2.2.2 w (List.mem_cons_of_mem _ h)
  unfold s_R_drop at h
  have hl : lv_has ls 4 [(0, .ref h_p0), (1, .int x1), (2, .int x2)] := hl
  refine lv_aload_n hx hb d_R_drop_0 rfl (lv_at hl 0 rfl) ?_
  refine va_get (D := D) (ci := 2) (v := .ref h_p0_m) (C := R_R) (T := F_R) (N := 12) hx hb ht in_R hown hK hP 0 rfl rfl 0 (by decide) (ht _ f_R_7) (fun _ h9 => h9) rfl d_R_drop_1 ?_
  refine lv_iload_n hx hb d_R_drop_4 rfl (lv_at hl 1 rfl) ?_
  refine lv_iconst (v := (nI 2)) hx hb d_R_drop_5 (by decide) ?_
  refine lv_iload_n hx hb d_R_drop_6 rfl (lv_at hl 2 rfl) ?_
  refine lv_iadd hx hb d_R_drop_7 ?_
  obtain ⟨r8, h8, h⟩ := bd_some h
  refine wk_Si (As := [.int x1, .int ((nI 2) + x2)]) (rest := [.ref h_p0_m]) (wc := []) (w1 := []) (wr := [(h_p0, .inr (2, [.ref h_p0_m, .ref h_p0_d, .ref h_p0_fresh, .ref h_p0_young, .ref h_p0_dropped, .ref h_p0_released, .ref h_p0_owed, .ref h_p0_counted, .ref h_p0_inMemory, .ref h_p0_onDisk, .ref h_p0_thn, .int moved])), (h_p0_m, .inl (cI, 1080, .inl mem)), (h_p0_d, .inl (cI, 1080, .inl dsk)), (h_p0_fresh, .inl (cZ, 36, .inl fresh)), (h_p0_young, .inl (cZ, 288, .inl young)), (h_p0_dropped, .inl (cI, 36, .inl dropped)), (h_p0_released, .inl (cZ, 18, .inl released)), (h_p0_owed, .inl (cI, 18, .inl owed)), (h_p0_counted, .inl (cI, 18, .inl counted)), (h_p0_inMemory, .inl (cZ, 18, .inl inMemory)), (h_p0_onDisk, .inl (cZ, 18, .inl onDisk)), (h_p0_thn, .inl (cZ, 18, .inl thn))]) (wz := (w_R cI cZ h_p0 h_p0_m h_p0_d h_p0_fresh h_p0_young h_p0_dropped h_p0_released h_p0_owed h_p0_counted h_p0_inMemory h_p0_onDisk h_p0_thn mem dsk fresh young dropped released owed counted inMemory onDisk thn moved)) cf hK hN hA (c_R_at l D cI cZ 0 x1 ((nI 2) + x2) r8 h8) k_R_44 ⟨rfl, rfl, by decide, by decide⟩ hl hP hD hS [] [0, 1, 2, 3, 4, 5, 6, 7, 8, 9, 10, 11] [0, 1, 2, 3, 4, 5, 6, 7, 8, 9, 10, 11] rfl rfl rfl (by decide) rfl rfl rfl rfl rfl (Nat.le_of_ble_eq_true rfl) rfl d_R_drop_8 (fun H locs hP hD hS => ?_)
  obtain ⟨hin, h⟩ := gr_some h
  refine va_iald hx hb hK hP 1 0 rfl rfl hin d_R_drop_11 ?_
  generalize mem r8.toNatClampNeg = v11 at h ⊢
  refine lv_istore_n (lv' := [(3, .int v11), (0, .ref h_p0), (1, .int x1), (2, .int x2)]) hx hb d_R_drop_12 rfl hl (by decide) rfl (fun ls hl => ?_)
  refine lv_iload_n hx hb d_R_drop_13 rfl (lv_at hl 0 rfl) ?_
  refine lv_if_ne hx hb d_R_drop_14 rfl (fun hc => ?_) (fun hc => ?_)
  · rw [if_neg hc] at h
    refine lv_aload_n hx hb d_R_drop_19 rfl (lv_at hl 1 rfl) ?_
    refine va_get (D := D) (ci := 2) (v := .ref h_p0_dropped) (C := R_R) (T := F_R) (N := 12) hx hb ht in_R hown hK hP 0 rfl rfl 4 (by decide) (ht _ f_R_23) (fun _ h9 => h9) rfl d_R_drop_20 ?_
    refine lv_iload_n hx hb d_R_drop_23 rfl (lv_at hl 0 rfl) ?_
    refine lv_aload_n hx hb d_R_drop_24 rfl (lv_at hl 1 rfl) ?_
    refine va_get (D := D) (ci := 2) (v := .ref h_p0_m) (C := R_R) (T := F_R) (N := 12) hx hb ht in_R hown hK hP 0 rfl rfl 0 (by decide) (ht _ f_R_7) (fun _ h9 => h9) rfl d_R_drop_25 ?_
    refine lv_iload_n hx hb d_R_drop_28 rfl (lv_at hl 2 rfl) ?_
    refine lv_iconst (v := (nI 0)) hx hb d_R_drop_29 (by decide) ?_
    obtain ⟨r30, h30, h⟩ := bd_some h
    refine wk_Si (As := [.int x1, .int (nI 0)]) (rest := [.ref h_p0_m, .int v11, .ref h_p0_dropped]) (wc := []) (w1 := []) (wr := [(h_p0, .inr (2, [.ref h_p0_m, .ref h_p0_d, .ref h_p0_fresh, .ref h_p0_young, .ref h_p0_dropped, .ref h_p0_released, .ref h_p0_owed, .ref h_p0_counted, .ref h_p0_inMemory, .ref h_p0_onDisk, .ref h_p0_thn, .int moved])), (h_p0_m, .inl (cI, 1080, .inl mem)), (h_p0_d, .inl (cI, 1080, .inl dsk)), (h_p0_fresh, .inl (cZ, 36, .inl fresh)), (h_p0_young, .inl (cZ, 288, .inl young)), (h_p0_dropped, .inl (cI, 36, .inl dropped)), (h_p0_released, .inl (cZ, 18, .inl released)), (h_p0_owed, .inl (cI, 18, .inl owed)), (h_p0_counted, .inl (cI, 18, .inl counted)), (h_p0_inMemory, .inl (cZ, 18, .inl inMemory)), (h_p0_onDisk, .inl (cZ, 18, .inl onDisk)), (h_p0_thn, .inl (cZ, 18, .inl thn))]) (wz := (w_R cI cZ h_p0 h_p0_m h_p0_d h_p0_fresh h_p0_young h_p0_dropped h_p0_released h_p0_owed h_p0_counted h_p0_inMemory h_p0_onDisk h_p0_thn mem dsk fresh young dropped released owed counted inMemory onDisk thn moved)) cf hK hN hA (c_R_at l D cI cZ 0 x1 (nI 0) r30 h30) k_R_44 ⟨rfl, rfl, by decide, by decide⟩ hl hP hD hS [] [0, 1, 2, 3, 4, 5, 6, 7, 8, 9, 10, 11] [0, 1, 2, 3, 4, 5, 6, 7, 8, 9, 10, 11] rfl rfl rfl (by decide) rfl rfl rfl rfl rfl (Nat.le_of_ble_eq_true rfl) rfl d_R_drop_30 (fun H locs hP hD hS => ?_)
    obtain ⟨hin, h⟩ := gr_some h
    refine va_iald hx hb hK hP 1 0 rfl rfl hin d_R_drop_33 ?_
    generalize mem r30.toNatClampNeg = v33 at h ⊢
    refine lv_iconst (v := (nI 2)) hx hb d_R_drop_34 (by decide) ?_
    refine lv_icmp_ne hx hb d_R_drop_35 rfl (fun hc => ?_) (fun hc => ?_)
    · rw [if_neg hc] at h
      refine lv_iconst (v := (nI 1)) hx hb d_R_drop_42 (by decide) ?_
      exact w_R_drop_43 h_p0 h_p0_m h_p0_d h_p0_fresh h_p0_young h_p0_dropped h_p0_released h_p0_owed h_p0_counted h_p0_inMemory h_p0_onDisk h_p0_thn dsk fresh young released owed counted inMemory onDisk thn moved dropped' mem' r ⟨cf, hr, hlk, hK, hN, hA⟩ x1 x2 v11 (nI 1) dropped mem h H locs ls (lv_sub hl [1, 2, 3] rfl) hP hD hS
    · rw [if_pos hc] at h
      refine lv_iconst (v := (nI 2)) hx hb d_R_drop_38 (by decide) ?_
      refine lv_goto hx hb d_R_drop_39 rfl ?_
      exact w_R_drop_43 h_p0 h_p0_m h_p0_d h_p0_fresh h_p0_young h_p0_dropped h_p0_released h_p0_owed h_p0_counted h_p0_inMemory h_p0_onDisk h_p0_thn dsk fresh young released owed counted inMemory onDisk thn moved dropped' mem' r ⟨cf, hr, hlk, hK, hN, hA⟩ x1 x2 v11 (nI 2) dropped mem h H locs ls (lv_sub hl [1, 2, 3] rfl) hP hD hS
  · rw [if_pos hc] at h
    refine lv_iconst (v := (nI 0)) hx hb d_R_drop_17 (by decide) ?_
    cases h
    exact sc_iret cf hr hlk hK hP hD hS d_R_drop_18
set_option maxHeartbeats 4000000 in
set_option maxRecDepth 100000 in
theorem w_R_fall_30 {p : Program} {l : Launch} {e : Env} {s : State} {m : MethodId} {args : Array Value} {below : List Frame} {meth : Method} {c : Code} {D : va_G} {cI cZ : ClassId} {A : Nat → Prop} (h_p0 h_p0_m h_p0_d h_p0_fresh h_p0_young h_p0_dropped h_p0_released h_p0_owed h_p0_counted h_p0_inMemory h_p0_onDisk h_p0_thn : Nat) (F : Nat) (dsk : (Nat → Int32)) (fresh : (Nat → Int32)) (young : (Nat → Int32)) (owed : (Nat → Int32)) (counted : (Nat → Int32)) (inMemory : (Nat → Int32)) (onDisk : (Nat → Int32)) (thn : (Nat → Int32)) (moved : Int32) (dropped' : (Nat → Int32)) (mem' : (Nat → Int32)) (released' : (Nat → Int32)) (cx : cx_ok p s m args meth c b_R_fall 3 o_R_fall "OrderedVolumeModel" none D cI cZ A) : ∀ (n : Nat) (x1 : Int32) (x2 : Int32) (dropped : (Nat → Int32)) (mem : (Nat → Int32)) (released : (Nat → Int32)), s_R_fall_30 F n x1 x2 dropped mem released = some (dropped', mem', released') → wk_G p l e rm_R_fall s m args below meth c (sc_Qv below args s D cI cZ A (w_R cI cZ h_p0 h_p0_m h_p0_d h_p0_fresh h_p0_young h_p0_dropped h_p0_released h_p0_owed h_p0_counted h_p0_inMemory h_p0_onDisk h_p0_thn (mem') dsk fresh young (dropped') (released') owed counted inMemory onDisk thn moved)) D A 3 30 [] [(0, .ref h_p0), (1, .int x1), (2, .int x2)] (w_R cI cZ h_p0 h_p0_m h_p0_d h_p0_fresh h_p0_young h_p0_dropped h_p0_released h_p0_owed h_p0_counted h_p0_inMemory h_p0_onDisk h_p0_thn mem dsk fresh young dropped released owed counted inMemory onDisk thn moved) := by
  obtain ⟨cf, hr, hlk, hK, hN, hA⟩ := cx
  have hx := cf.1
  have hb := cf.2.1
  have hown := cf.2.2.2.1
  have ht : ∀ w ∈ wA, w.before args s = true := fun w h => cf.2.2.2.2 w (List.mem_cons_of_mem _ h)
  intro n
  induction n with
  | zero => intro x1 x2 dropped mem released h; cases (show (none : Option ((Nat → Int32) × (Nat → Int32) × (Nat → Int32))) = some _ from h)
  | succ n ih =>
    intro x1 x2 dropped mem released h H locs ls hl hP hD hS
    unfold s_R_fall_30 at h
    refine lv_iload_n hx hb d_R_fall_30 rfl (lv_at hl 2 rfl) ?_
    refine lv_iconst (v := (nI 3)) hx hb d_R_fall_31 (by decide) ?_
    refine lv_icmp_ge hx hb d_R_fall_32 rfl (fun hc => ?_) (fun hc => ?_)
    · rw [if_pos hc] at h
      refine lv_aload_n hx hb d_R_fall_48 rfl (lv_at hl 0 rfl) ?_
      refine va_get (D := D) (ci := 2) (v := .ref h_p0_m) (C := R_R) (T := F_R) (N := 12) hx hb ht in_R hown hK hP 0 rfl rfl 0 (by decide) (ht _ f_R_7) (fun _ h9 => h9) rfl d_R_fall_49 ?_
      refine lv_iload_n hx hb d_R_fall_52 rfl (lv_at hl 1 rfl) ?_
      refine lv_iconst (v := (nI 0)) hx hb d_R_fall_53 (by decide) ?_
      obtain ⟨r54, h54, h⟩ := bd_some h
      refine wk_Si (As := [.int x1, .int (nI 0)]) (rest := [.ref h_p0_m]) (wc := []) (w1 := []) (wr := [(h_p0, .inr (2, [.ref h_p0_m, .ref h_p0_d, .ref h_p0_fresh, .ref h_p0_young, .ref h_p0_dropped, .ref h_p0_released, .ref h_p0_owed, .ref h_p0_counted, .ref h_p0_inMemory, .ref h_p0_onDisk, .ref h_p0_thn, .int moved])), (h_p0_m, .inl (cI, 1080, .inl mem)), (h_p0_d, .inl (cI, 1080, .inl dsk)), (h_p0_fresh, .inl (cZ, 36, .inl fresh)), (h_p0_young, .inl (cZ, 288, .inl young)), (h_p0_dropped, .inl (cI, 36, .inl dropped)), (h_p0_released, .inl (cZ, 18, .inl released)), (h_p0_owed, .inl (cI, 18, .inl owed)), (h_p0_counted, .inl (cI, 18, .inl counted)), (h_p0_inMemory, .inl (cZ, 18, .inl inMemory)), (h_p0_onDisk, .inl (cZ, 18, .inl onDisk)), (h_p0_thn, .inl (cZ, 18, .inl thn))]) (wz := (w_R cI cZ h_p0 h_p0_m h_p0_d h_p0_fresh h_p0_young h_p0_dropped h_p0_released h_p0_owed h_p0_counted h_p0_inMemory h_p0_onDisk h_p0_thn mem dsk fresh young dropped released owed counted inMemory onDisk thn moved)) cf hK hN hA (c_R_at l D cI cZ 0 x1 (nI 0) r54 h54) k_R_44 ⟨rfl, rfl, by decide, by decide⟩ hl hP hD hS [] [0, 1, 2, 3, 4, 5, 6, 7, 8, 9, 10, 11] [0, 1, 2, 3, 4, 5, 6, 7, 8, 9, 10, 11] rfl rfl rfl (by decide) rfl rfl rfl rfl rfl (Nat.le_of_ble_eq_true rfl) rfl d_R_fall_54 (fun H locs hP hD hS => ?_)
      refine lv_iconst (v := (nI 0)) hx hb d_R_fall_57 (by decide) ?_
      obtain ⟨hin, h⟩ := ga_some h
      refine va_iast hx hb hK hP hD hS 1 0 rfl rfl hin d_R_fall_58 (fun H locs hP hD hS => ?_)
      have hP : va_P D clA (w_R cI cZ h_p0 h_p0_m h_p0_d h_p0_fresh h_p0_young h_p0_dropped h_p0_released h_p0_owed h_p0_counted h_p0_inMemory h_p0_onDisk h_p0_thn (upd mem r54.toNatClampNeg (nI 0)) dsk fresh young dropped released owed counted inMemory onDisk thn moved) H := hP
      have hD : va_D A (w_R cI cZ h_p0 h_p0_m h_p0_d h_p0_fresh h_p0_young h_p0_dropped h_p0_released h_p0_owed h_p0_counted h_p0_inMemory h_p0_onDisk h_p0_thn (upd mem r54.toNatClampNeg (nI 0)) dsk fresh young dropped released owed counted inMemory onDisk thn moved) := hD
      refine lv_aload_n hx hb d_R_fall_59 rfl (lv_at hl 0 rfl) ?_
      refine va_get (D := D) (ci := 2) (v := .ref h_p0_released) (C := R_R) (T := F_R) (N := 12) hx hb ht in_R hown hK hP 0 rfl rfl 5 (by decide) (ht _ f_R_26) (fun _ h9 => h9) rfl d_R_fall_60 ?_
      refine lv_iload_n hx hb d_R_fall_63 rfl (lv_at hl 1 rfl) ?_
      refine lv_iconst (v := (nI 1)) hx hb d_R_fall_64 (by decide) ?_
      obtain ⟨hin, h⟩ := ga_some h
      refine va_zast hx hb hK hP hD hS 6 1 rfl rfl hin d_R_fall_65 (fun H locs hP hD hS => ?_)
      have hP : va_P D clA (w_R cI cZ h_p0 h_p0_m h_p0_d h_p0_fresh h_p0_young h_p0_dropped h_p0_released h_p0_owed h_p0_counted h_p0_inMemory h_p0_onDisk h_p0_thn (upd mem r54.toNatClampNeg (nI 0)) dsk fresh young dropped (upd released x1.toNatClampNeg (vp_nar .boolean (nI 1))) owed counted inMemory onDisk thn moved) H := hP
      have hD : va_D A (w_R cI cZ h_p0 h_p0_m h_p0_d h_p0_fresh h_p0_young h_p0_dropped h_p0_released h_p0_owed h_p0_counted h_p0_inMemory h_p0_onDisk h_p0_thn (upd mem r54.toNatClampNeg (nI 0)) dsk fresh young dropped (upd released x1.toNatClampNeg (vp_nar .boolean (nI 1))) owed counted inMemory onDisk thn moved) := hD
      cases h
      exact sc_vret cf hr hlk hK hP hD hS d_R_fall_66
    · rw [if_neg hc] at h
      refine lv_aload_n hx hb d_R_fall_35 rfl (lv_at hl 0 rfl) ?_
      refine lv_iload_n hx hb d_R_fall_36 rfl (lv_at hl 1 rfl) ?_
      refine lv_iload_n hx hb d_R_fall_37 rfl (lv_at hl 2 rfl) ?_
      obtain ⟨⟨r38, dropped_38, mem_38⟩, h38, h⟩ := bd_some h
      dsimp only at h
      refine wk_Vi (As := [.int x1, .int x2]) (rest := []) (wc := (w_R cI cZ h_p0 h_p0_m h_p0_d h_p0_fresh h_p0_young h_p0_dropped h_p0_released h_p0_owed h_p0_counted h_p0_inMemory h_p0_onDisk h_p0_thn mem dsk fresh young dropped released owed counted inMemory onDisk thn moved)) (w1 := (w_R cI cZ h_p0 h_p0_m h_p0_d h_p0_fresh h_p0_young h_p0_dropped h_p0_released h_p0_owed h_p0_counted h_p0_inMemory h_p0_onDisk h_p0_thn mem_38 dsk fresh young dropped_38 released owed counted inMemory onDisk thn moved)) (wr := []) (wz := (w_R cI cZ h_p0 h_p0_m h_p0_d h_p0_fresh h_p0_young h_p0_dropped h_p0_released h_p0_owed h_p0_counted h_p0_inMemory h_p0_onDisk h_p0_thn mem_38 dsk fresh young dropped_38 released owed counted inMemory onDisk thn moved)) cf hK hN hA (c_R_drop l D cI cZ h_p0 h_p0_m h_p0_d h_p0_fresh h_p0_young h_p0_dropped h_p0_released h_p0_owed h_p0_counted h_p0_inMemory h_p0_onDisk h_p0_thn mem dsk fresh young dropped released owed counted inMemory onDisk thn moved dropped_38 mem_38 x1 x2 r38 h38) k_R_82 ⟨rfl, rfl, by decide, by decide⟩ 2 rfl rfl rfl hl hP hD hS [0, 1, 2, 3, 4, 5, 6, 7, 8, 9, 10, 11] [] [0, 1, 2, 3, 4, 5, 6, 7, 8, 9, 10, 11] rfl rfl rfl (by decide) rfl rfl rfl rfl rfl (Nat.le_of_ble_eq_true rfl) rfl d_R_fall_38 (fun H locs hP hD hS => ?_)
      refine lv_pop hx hb d_R_fall_41 rfl ?_
      refine lv_iinc (k := 2) (v := (x2 + (nI 1))) (lv' := [(2, .int (x2 + (nI 1))), (0, .ref h_p0), (1, .int x1)]) hx hb d_R_fall_42 hl rfl rfl (by decide) rfl (fun ls hl => ?_)
      refine lv_goto hx hb d_R_fall_45 rfl ?_
      exact ih x1 (x2 + (nI 1)) dropped_38 mem_38 released h H locs ls (lv_sub hl [1, 2, 0] rfl) hP hD hS
set_option maxHeartbeats 4000000 in
set_option maxRecDepth 100000 in
theorem c_R_fall (l : Launch) (D : va_G) (cI cZ : ClassId) (h_p0 h_p0_m h_p0_d h_p0_fresh h_p0_young h_p0_dropped h_p0_released h_p0_owed h_p0_counted h_p0_inMemory h_p0_onDisk h_p0_thn : Nat) (F : Nat) (mem : (Nat → Int32)) (dsk : (Nat → Int32)) (fresh : (Nat → Int32)) (young : (Nat → Int32)) (dropped : (Nat → Int32)) (released : (Nat → Int32)) (owed : (Nat → Int32)) (counted : (Nat → Int32)) (inMemory : (Nat → Int32)) (onDisk : (Nat → Int32)) (thn : (Nat → Int32)) (moved : Int32) (dropped' : (Nat → Int32)) (mem' : (Nat → Int32)) (released' : (Nat → Int32)) (x1 : Int32) (h : s_R_fall F x1 dropped mem released = some (dropped', mem', released')) : sc_v l y_R_fall (o_R_fall :: wA) rm_R_fall D cI cZ [.ref h_p0, .int x1] (w_R cI cZ h_p0 h_p0_m h_p0_d h_p0_fresh h_p0_young h_p0_dropped h_p0_released h_p0_owed h_p0_counted h_p0_inMemory h_p0_onDisk h_p0_thn mem dsk fresh young dropped released owed counted inMemory onDisk thn moved) (w_R cI cZ h_p0 h_p0_m h_p0_d h_p0_fresh h_p0_young h_p0_dropped h_p0_released h_p0_owed h_p0_counted h_p0_inMemory h_p0_onDisk h_p0_thn (mem') dsk fresh young (dropped') (released') owed counted inMemory onDisk thn moved) := by
  refine sc_v_of (cc := b_R_fall) (maxL := 3) (ret := none) (by decide) rfl (Nat.le_of_ble_eq_true rfl) ?_
  intro p e s m below meth c A cf hr hlk hK hN hA H locs ls hl hP hD hS
  have hx := cf.1
  have hb := cf.2.1
  have hown := cf.2.2.2.1
  have ht : ∀ w ∈ wA, w.before _ s = true := fun w h => cf.2.2.2.2 w (List.mem_cons_of_mem _ h)
  unfold s_R_fall at h
  have hl : lv_has ls 3 [(0, .ref h_p0), (1, .int x1)] := hl
  refine lv_aload_n hx hb d_R_fall_0 rfl (lv_at hl 0 rfl) ?_
  refine va_get (D := D) (ci := 2) (v := .ref h_p0_m) (C := R_R) (T := F_R) (N := 12) hx hb ht in_R hown hK hP 0 rfl rfl 0 (by decide) (ht _ f_R_7) (fun _ h9 => h9) rfl d_R_fall_1 ?_
  refine lv_iload_n hx hb d_R_fall_4 rfl (lv_at hl 1 rfl) ?_
  refine lv_iconst (v := (nI 1)) hx hb d_R_fall_5 (by decide) ?_
  obtain ⟨r6, h6, h⟩ := bd_some h
  refine wk_Si (As := [.int x1, .int (nI 1)]) (rest := [.ref h_p0_m]) (wc := []) (w1 := []) (wr := [(h_p0, .inr (2, [.ref h_p0_m, .ref h_p0_d, .ref h_p0_fresh, .ref h_p0_young, .ref h_p0_dropped, .ref h_p0_released, .ref h_p0_owed, .ref h_p0_counted, .ref h_p0_inMemory, .ref h_p0_onDisk, .ref h_p0_thn, .int moved])), (h_p0_m, .inl (cI, 1080, .inl mem)), (h_p0_d, .inl (cI, 1080, .inl dsk)), (h_p0_fresh, .inl (cZ, 36, .inl fresh)), (h_p0_young, .inl (cZ, 288, .inl young)), (h_p0_dropped, .inl (cI, 36, .inl dropped)), (h_p0_released, .inl (cZ, 18, .inl released)), (h_p0_owed, .inl (cI, 18, .inl owed)), (h_p0_counted, .inl (cI, 18, .inl counted)), (h_p0_inMemory, .inl (cZ, 18, .inl inMemory)), (h_p0_onDisk, .inl (cZ, 18, .inl onDisk)), (h_p0_thn, .inl (cZ, 18, .inl thn))]) (wz := (w_R cI cZ h_p0 h_p0_m h_p0_d h_p0_fresh h_p0_young h_p0_dropped h_p0_released h_p0_owed h_p0_counted h_p0_inMemory h_p0_onDisk h_p0_thn mem dsk fresh young dropped released owed counted inMemory onDisk thn moved)) cf hK hN hA (c_R_at l D cI cZ 0 x1 (nI 1) r6 h6) k_R_44 ⟨rfl, rfl, by decide, by decide⟩ hl hP hD hS [] [0, 1, 2, 3, 4, 5, 6, 7, 8, 9, 10, 11] [0, 1, 2, 3, 4, 5, 6, 7, 8, 9, 10, 11] rfl rfl rfl (by decide) rfl rfl rfl rfl rfl (Nat.le_of_ble_eq_true rfl) rfl d_R_fall_6 (fun H locs hP hD hS => ?_)
  refine lv_dup2_11 hx hb d_R_fall_9 rfl rfl ?_
  obtain ⟨hin, h⟩ := gr_some h
  refine va_iald hx hb hK hP 1 0 rfl rfl hin d_R_fall_10 ?_
  generalize mem r6.toNatClampNeg = v10 at h ⊢
  refine lv_iconst (v := (nI 1)) hx hb d_R_fall_11 (by decide) ?_
  refine lv_isub hx hb d_R_fall_12 ?_
  obtain ⟨hin, h⟩ := ga_some h
  refine va_iast hx hb hK hP hD hS 1 0 rfl rfl hin d_R_fall_13 (fun H locs hP hD hS => ?_)
  have hP : va_P D clA (w_R cI cZ h_p0 h_p0_m h_p0_d h_p0_fresh h_p0_young h_p0_dropped h_p0_released h_p0_owed h_p0_counted h_p0_inMemory h_p0_onDisk h_p0_thn (upd mem r6.toNatClampNeg (v10 - (nI 1))) dsk fresh young dropped released owed counted inMemory onDisk thn moved) H := hP
  have hD : va_D A (w_R cI cZ h_p0 h_p0_m h_p0_d h_p0_fresh h_p0_young h_p0_dropped h_p0_released h_p0_owed h_p0_counted h_p0_inMemory h_p0_onDisk h_p0_thn (upd mem r6.toNatClampNeg (v10 - (nI 1))) dsk fresh young dropped released owed counted inMemory onDisk thn moved) := hD
  refine lv_aload_n hx hb d_R_fall_14 rfl (lv_at hl 0 rfl) ?_
  refine va_get (D := D) (ci := 2) (v := .ref h_p0_m) (C := R_R) (T := F_R) (N := 12) hx hb ht in_R hown hK hP 0 rfl rfl 0 (by decide) (ht _ f_R_7) (fun _ h9 => h9) rfl d_R_fall_15 ?_
  refine lv_iload_n hx hb d_R_fall_18 rfl (lv_at hl 1 rfl) ?_
  refine lv_iconst (v := (nI 1)) hx hb d_R_fall_19 (by decide) ?_
  obtain ⟨r20, h20, h⟩ := bd_some h
  refine wk_Si (As := [.int x1, .int (nI 1)]) (rest := [.ref h_p0_m]) (wc := []) (w1 := []) (wr := [(h_p0, .inr (2, [.ref h_p0_m, .ref h_p0_d, .ref h_p0_fresh, .ref h_p0_young, .ref h_p0_dropped, .ref h_p0_released, .ref h_p0_owed, .ref h_p0_counted, .ref h_p0_inMemory, .ref h_p0_onDisk, .ref h_p0_thn, .int moved])), (h_p0_m, .inl (cI, 1080, .inl (upd mem r6.toNatClampNeg (v10 - (nI 1))))), (h_p0_d, .inl (cI, 1080, .inl dsk)), (h_p0_fresh, .inl (cZ, 36, .inl fresh)), (h_p0_young, .inl (cZ, 288, .inl young)), (h_p0_dropped, .inl (cI, 36, .inl dropped)), (h_p0_released, .inl (cZ, 18, .inl released)), (h_p0_owed, .inl (cI, 18, .inl owed)), (h_p0_counted, .inl (cI, 18, .inl counted)), (h_p0_inMemory, .inl (cZ, 18, .inl inMemory)), (h_p0_onDisk, .inl (cZ, 18, .inl onDisk)), (h_p0_thn, .inl (cZ, 18, .inl thn))]) (wz := (w_R cI cZ h_p0 h_p0_m h_p0_d h_p0_fresh h_p0_young h_p0_dropped h_p0_released h_p0_owed h_p0_counted h_p0_inMemory h_p0_onDisk h_p0_thn (upd mem r6.toNatClampNeg (v10 - (nI 1))) dsk fresh young dropped released owed counted inMemory onDisk thn moved)) cf hK hN hA (c_R_at l D cI cZ 0 x1 (nI 1) r20 h20) k_R_44 ⟨rfl, rfl, by decide, by decide⟩ hl hP hD hS [] [0, 1, 2, 3, 4, 5, 6, 7, 8, 9, 10, 11] [0, 1, 2, 3, 4, 5, 6, 7, 8, 9, 10, 11] rfl rfl rfl (by decide) rfl rfl rfl rfl rfl (Nat.le_of_ble_eq_true rfl) rfl d_R_fall_20 (fun H locs hP hD hS => ?_)
  obtain ⟨hin, h⟩ := gr_some h
  refine va_iald hx hb hK hP 1 0 rfl rfl hin d_R_fall_23 ?_
  generalize (upd mem r6.toNatClampNeg (v10 - (nI 1))) r20.toNatClampNeg = v23 at h ⊢
  refine lv_if_eq hx hb d_R_fall_24 rfl (fun hc => ?_) (fun hc => ?_)
  · rw [if_pos hc] at h
    refine lv_iconst (v := (nI 0)) hx hb d_R_fall_28 (by decide) ?_
    refine lv_istore_n (lv' := [(2, .int (nI 0)), (0, .ref h_p0), (1, .int x1)]) hx hb d_R_fall_29 rfl hl (by decide) rfl (fun ls hl => ?_)
    exact w_R_fall_30 h_p0 h_p0_m h_p0_d h_p0_fresh h_p0_young h_p0_dropped h_p0_released h_p0_owed h_p0_counted h_p0_inMemory h_p0_onDisk h_p0_thn F dsk fresh young owed counted inMemory onDisk thn moved dropped' mem' released' ⟨cf, hr, hlk, hK, hN, hA⟩ F x1 (nI 0) dropped (upd mem r6.toNatClampNeg (v10 - (nI 1))) released h H locs ls (lv_sub hl [1, 2, 0] rfl) hP hD hS
  · rw [if_neg hc] at h
    cases h
    exact sc_vret cf hr hlk hK hP hD hS d_R_fall_27
set_option maxHeartbeats 4000000 in
set_option maxRecDepth 100000 in
theorem w_R_count_144 {p : Program} {l : Launch} {e : Env} {s : State} {m : MethodId} {args : Array Value} {below : List Frame} {meth : Method} {c : Code} {D : va_G} {cI cZ : ClassId} {A : Nat → Prop} (h_p0 h_p0_m h_p0_d h_p0_fresh h_p0_young h_p0_dropped h_p0_released h_p0_owed h_p0_counted h_p0_inMemory h_p0_onDisk h_p0_thn : Nat) (F : Nat) (dsk : (Nat → Int32)) (fresh : (Nat → Int32)) (young : (Nat → Int32)) (inMemory : (Nat → Int32)) (onDisk : (Nat → Int32)) (thn : (Nat → Int32)) (moved : Int32) (dropped' : (Nat → Int32)) (mem' : (Nat → Int32)) (released' : (Nat → Int32)) (owed' : (Nat → Int32)) (counted' : (Nat → Int32)) (r : Int32) (k131 : Int32 → Int32 → (Nat → Int32) → (Nat → Int32) → (Nat → Int32) → (Nat → Int32) → (Nat → Int32) → Option (Int32 × (Nat → Int32) × (Nat → Int32) × (Nat → Int32) × (Nat → Int32) × (Nat → Int32))) (cx : cx_ok p s m args meth c b_R_count 4 o_R_count "OrderedVolumeModel" (some .boolean) D cI cZ A) (h131 : (∀ (x1 : Int32) (x2 : Int32) (dropped : (Nat → Int32)) (mem : (Nat → Int32)) (released : (Nat → Int32)) (owed : (Nat → Int32)) (counted : (Nat → Int32)), k131 x1 x2 dropped mem released owed counted = some (r, dropped', mem', released', owed', counted') → wk_G p l e rm_R_count s m args below meth c (sc_Qi below args s D cI cZ A (w_R cI cZ h_p0 h_p0_m h_p0_d h_p0_fresh h_p0_young h_p0_dropped h_p0_released h_p0_owed h_p0_counted h_p0_inMemory h_p0_onDisk h_p0_thn (mem') dsk fresh young (dropped') (released') (owed') (counted') inMemory onDisk thn moved) r) D A 4 131 [] [(0, .ref h_p0), (1, .int x1), (2, .int x2)] (w_R cI cZ h_p0 h_p0_m h_p0_d h_p0_fresh h_p0_young h_p0_dropped h_p0_released h_p0_owed h_p0_counted h_p0_inMemory h_p0_onDisk h_p0_thn mem dsk fresh young dropped released owed counted inMemory onDisk thn moved))) : ∀ (n : Nat) (x1 : Int32) (x2 : Int32) (x3 : Int32) (dropped : (Nat → Int32)) (mem : (Nat → Int32)) (released : (Nat → Int32)) (owed : (Nat → Int32)) (counted : (Nat → Int32)), s_R_count_144 F dsk fresh k131 n x1 x2 x3 dropped mem released owed counted = some (r, dropped', mem', released', owed', counted') → wk_G p l e rm_R_count s m args below meth c (sc_Qi below args s D cI cZ A (w_R cI cZ h_p0 h_p0_m h_p0_d h_p0_fresh h_p0_young h_p0_dropped h_p0_released h_p0_owed h_p0_counted h_p0_inMemory h_p0_onDisk h_p0_thn (mem') dsk fresh young (dropped') (released') (owed') (counted') inMemory onDisk thn moved) r) D A 4 144 [] [(0, .ref h_p0), (1, .int x1), (2, .int x2), (3, .int x3)] (w_R cI cZ h_p0 h_p0_m h_p0_d h_p0_fresh h_p0_young h_p0_dropped h_p0_released h_p0_owed h_p0_counted h_p0_inMemory h_p0_onDisk h_p0_thn mem dsk fresh young dropped released owed counted inMemory onDisk thn moved) := by
  obtain ⟨cf, hr, hlk, hK, hN, hA⟩ := cx
  have hx := cf.1
  have hb := cf.2.1
  have hown := cf.2.2.2.1
  have ht : ∀ w ∈ wA, w.before args s = true := fun w h => cf.2.2.2.2 w (List.mem_cons_of_mem _ h)
  intro n
  induction n with
  | zero => intro x1 x2 x3 dropped mem released owed counted h; cases (show (none : Option (Int32 × (Nat → Int32) × (Nat → Int32) × (Nat → Int32) × (Nat → Int32) × (Nat → Int32))) = some _ from h)
  | succ n ih =>
    intro x1 x2 x3 dropped mem released owed counted h H locs ls hl hP hD hS
    unfold s_R_count_144 at h
    refine lv_iload_n hx hb d_R_count_144 rfl (lv_at hl 3 rfl) ?_
    refine lv_aload_n hx hb d_R_count_145 rfl (lv_at hl 0 rfl) ?_
    refine va_get (D := D) (ci := 2) (v := .ref h_p0_counted) (C := R_R) (T := F_R) (N := 12) hx hb ht in_R hown hK hP 0 rfl rfl 7 (by decide) (ht _ f_R_32) (fun _ h9 => h9) rfl d_R_count_146 ?_
    refine lv_iload_n hx hb d_R_count_149 rfl (lv_at hl 2 rfl) ?_
    obtain ⟨hin, h⟩ := gr_some h
    refine va_iald hx hb hK hP 8 0 rfl rfl hin d_R_count_150 ?_
    generalize counted x2.toNatClampNeg = v150 at h ⊢
    refine lv_icmp_le hx hb d_R_count_151 rfl (fun hc => ?_) (fun hc => ?_)
    · rw [if_pos hc] at h
      refine lv_aload_n hx hb d_R_count_167 rfl (lv_at hl 0 rfl) ?_
      refine va_get (D := D) (ci := 2) (v := .ref h_p0_owed) (C := R_R) (T := F_R) (N := 12) hx hb ht in_R hown hK hP 0 rfl rfl 6 (by decide) (ht _ f_R_29) (fun _ h9 => h9) rfl d_R_count_168 ?_
      refine lv_iload_n hx hb d_R_count_171 rfl (lv_at hl 2 rfl) ?_
      refine lv_aload_n hx hb d_R_count_172 rfl (lv_at hl 0 rfl) ?_
      refine va_get (D := D) (ci := 2) (v := .ref h_p0_counted) (C := R_R) (T := F_R) (N := 12) hx hb ht in_R hown hK hP 0 rfl rfl 7 (by decide) (ht _ f_R_32) (fun _ h9 => h9) rfl d_R_count_173 ?_
      refine lv_iload_n hx hb d_R_count_176 rfl (lv_at hl 2 rfl) ?_
      obtain ⟨hin, h⟩ := gr_some h
      refine va_iald hx hb hK hP 8 0 rfl rfl hin d_R_count_177 ?_
      generalize counted x2.toNatClampNeg = v177 at h ⊢
      obtain ⟨hin, h⟩ := ga_some h
      refine va_iast hx hb hK hP hD hS 7 0 rfl rfl hin d_R_count_178 (fun H locs hP hD hS => ?_)
      have hP : va_P D clA (w_R cI cZ h_p0 h_p0_m h_p0_d h_p0_fresh h_p0_young h_p0_dropped h_p0_released h_p0_owed h_p0_counted h_p0_inMemory h_p0_onDisk h_p0_thn mem dsk fresh young dropped released (upd owed x2.toNatClampNeg v177) counted inMemory onDisk thn moved) H := hP
      have hD : va_D A (w_R cI cZ h_p0 h_p0_m h_p0_d h_p0_fresh h_p0_young h_p0_dropped h_p0_released h_p0_owed h_p0_counted h_p0_inMemory h_p0_onDisk h_p0_thn mem dsk fresh young dropped released (upd owed x2.toNatClampNeg v177) counted inMemory onDisk thn moved) := hD
      refine lv_iinc (k := 2) (v := (x2 + (nI 1))) (lv' := [(2, .int (x2 + (nI 1))), (0, .ref h_p0), (1, .int x1), (3, .int x3)]) hx hb d_R_count_179 hl rfl rfl (by decide) rfl (fun ls hl => ?_)
      refine lv_goto hx hb d_R_count_182 rfl ?_
      exact h131 x1 (x2 + (nI 1)) dropped mem released (upd owed x2.toNatClampNeg v177) counted h H locs ls (lv_sub hl [1, 2, 0] rfl) hP hD hS
    · rw [if_neg hc] at h
      refine lv_aload_n hx hb d_R_count_154 rfl (lv_at hl 0 rfl) ?_
      refine lv_iload_n hx hb d_R_count_155 rfl (lv_at hl 2 rfl) ?_
      obtain ⟨⟨dropped_156, mem_156, released_156⟩, h156, h⟩ := bd_some h
      dsimp only at h
      refine wk_Vv (As := [.int x2]) (rest := []) (wc := (w_R cI cZ h_p0 h_p0_m h_p0_d h_p0_fresh h_p0_young h_p0_dropped h_p0_released h_p0_owed h_p0_counted h_p0_inMemory h_p0_onDisk h_p0_thn mem dsk fresh young dropped released owed counted inMemory onDisk thn moved)) (w1 := (w_R cI cZ h_p0 h_p0_m h_p0_d h_p0_fresh h_p0_young h_p0_dropped h_p0_released h_p0_owed h_p0_counted h_p0_inMemory h_p0_onDisk h_p0_thn mem_156 dsk fresh young dropped_156 released_156 owed counted inMemory onDisk thn moved)) (wr := []) (wz := (w_R cI cZ h_p0 h_p0_m h_p0_d h_p0_fresh h_p0_young h_p0_dropped h_p0_released h_p0_owed h_p0_counted h_p0_inMemory h_p0_onDisk h_p0_thn mem_156 dsk fresh young dropped_156 released_156 owed counted inMemory onDisk thn moved)) cf hK hN hA (c_R_fall l D cI cZ h_p0 h_p0_m h_p0_d h_p0_fresh h_p0_young h_p0_dropped h_p0_released h_p0_owed h_p0_counted h_p0_inMemory h_p0_onDisk h_p0_thn F mem dsk fresh young dropped released owed counted inMemory onDisk thn moved dropped_156 mem_156 released_156 x2 h156) k_R_75 ⟨rfl, rfl, by decide, by decide⟩ 2 rfl rfl rfl hl hP hD hS [0, 1, 2, 3, 4, 5, 6, 7, 8, 9, 10, 11] [] [0, 1, 2, 3, 4, 5, 6, 7, 8, 9, 10, 11] rfl rfl rfl (by decide) rfl rfl rfl rfl rfl (Nat.le_of_ble_eq_true rfl) rfl d_R_count_156 (fun H locs hP hD hS => ?_)
      refine lv_iconst (v := (nI 1)) hx hb d_R_count_159 (by decide) ?_
      refine lv_istore_n (lv' := [(1, .int (nI 1)), (0, .ref h_p0), (2, .int x2), (3, .int x3)]) hx hb d_R_count_160 rfl hl (by decide) rfl (fun ls hl => ?_)
      refine lv_iinc (k := 3) (v := (x3 + (-1))) (lv' := [(3, .int (x3 + (-1))), (1, .int (nI 1)), (0, .ref h_p0), (2, .int x2)]) hx hb d_R_count_161 hl rfl rfl (by decide) rfl (fun ls hl => ?_)
      refine lv_goto hx hb d_R_count_164 rfl ?_
      exact ih (nI 1) x2 (x3 + (-1)) dropped_156 mem_156 released_156 owed counted h H locs ls (lv_sub hl [2, 1, 3, 0] rfl) hP hD hS
