-- calls that only read
theorem Inv_VT1 {n : Nat} {σ : St} (h : Inv n σ) : VT (σ 1) := VX_VT h.2.1.1.1 h.2.1.2.2.2.2.1.1 (by have := h.1; omega)
theorem Inv_VT4 {n : Nat} {σ : St} (h : Inv n σ) : VT (σ 4) := VX_VT h.2.1.1.2 h.2.1.2.2.2.2.1.2 (by have := h.1; omega)
theorem Inv_V5 {n : Nat} {σ : St} (h : Inv n σ) : V5 σ := h.2.1.2.2.2.2.2.1
theorem bd_s {α β : Type} {k : α → Option β} {a : α} : bd (some a) k = k a := rfl
theorem isName_same : @s_R_isName = @s_V_isName := rfl
theorem ans_lt {k n : Nat} (hn : n < 2 ^ 31) : (0 ≤ ans k n) ↔ k < n := by
  by_cases h : k < n
  · rw [ans_t h]; exact ⟨fun _ => h, fun _ => nI_pos' (by omega)⟩
  · rw [ans_f h]; exact ⟨fun q => absurd q (by decide), fun q => absurd q h⟩
theorem st_image (F : Nat) : St_image F Rl0 := by
  intro n v0 v1 v2 v3 v4 v5 v6 v7 v8 v9 v10 v11 v12 v13 r0 r1 r2 r3 r4 r5 r6 r7 r8 r9 r10 r11 x1 x2 hn hR
  obtain ⟨σ, hI, h0, h1, h2, h3, h4, h5, h6, h7, h8, h9, h10, h11, h12, h13, hrest⟩ := hR
  subst h4 h5 h6 h13
  have key : ∃ r, s_V_image (zz (σ 3)) (zz (σ 4)) (zz (σ 5)) x1 x2 = some r ∧ s_R_image (zz (rM (σ 3) (σ 4) (σ 5))) x1 x2 = some r := by
    unfold s_V_image s_R_image
    have hw : s_R_within x1 x2 = s_V_isCell x1 x2 := rfl
    rw [hw]
    unfold s_V_isCell s_V_isCell_26
    by_cases a : x1 < 0
    · rw [if_pos a]; exact ⟨_, rfl, rfl⟩
    · rw [if_neg a]
      by_cases b : nI 36 ≤ x1
      · rw [if_pos b]; exact ⟨_, rfl, rfl⟩
      · rw [if_neg b]
        by_cases c : x2 < 0
        · rw [if_pos c]; exact ⟨_, rfl, rfl⟩
        · rw [if_neg c]
          obtain ⟨b', hb', rfl⟩ := ((pk_ix x1 (n := 36) (by decide)).resolve_left a).resolve_left b
          rw [bd_e (cf_cellCount hb')]
          by_cases d : nI (sz b') ≤ x2
          · rw [if_pos d]; exact ⟨_, rfl, rfl⟩
          · rw [if_neg d]
            have hs := sz_le (b := b')
            obtain ⟨c', hc', rfl⟩ := ((pk_ix x2 (n := sz b') (by omega)).resolve_left c).resolve_left d
            refine ⟨nI (cl (σ 3) (σ 4) (σ 5) b' c'), ?_, ?_⟩
            · rw [bd_s, if_neg (by decide), bd_e (cf_cell hb' hc')]
            · rw [bd_s, if_neg (by decide), gr_e (30 * b' + c') (by rw [pk_mul, nI_add]) (by omega) (by decide)]
              show some (nI (rM (σ 3) (σ 4) (σ 5) (30 * b' + c'))) = _
              have e1 : (30 * b' + c') / 30 = b' := by omega
              have e2 : (30 * b' + c') % 30 = c' := by omega
              unfold rM cl
              rw [e1, e2, if_pos ⟨by omega, hc'⟩]
  obtain ⟨r, e1, e2⟩ := key
  exact ⟨r, e1, e2, σ, Inv_s hI hn, h0, h1, h2, h3, rfl, rfl, rfl, h7, h8, h9, h10, h11, h12, rfl, hrest⟩
theorem st_cached (F : Nat) : St_cached F Rl0 := by
  intro n v0 v1 v2 v3 v4 v5 v6 v7 v8 v9 v10 v11 v12 v13 r0 r1 r2 r3 r4 r5 r6 r7 r8 r9 r10 r11 x1 x2 hn hR
  obtain ⟨σ, hI, h0, h1, h2, h3, h4, h5, h6, h7, h8, h9, h10, h11, h12, h13, hrest⟩ := hR
  subst h0 h1 h2 h12
  have key : ∃ r, s_V_cached (zz (σ 0)) (zz (σ 1)) (zz (σ 2)) x1 x2 = some r ∧ s_R_cached (zz (rM (σ 0) (σ 1) (σ 2))) x1 x2 = some r := by
    unfold s_V_cached s_R_cached
    have hw : s_R_within x1 x2 = s_V_isCell x1 x2 := rfl
    rw [hw]
    unfold s_V_isCell s_V_isCell_26
    by_cases a : x1 < 0
    · rw [if_pos a]; exact ⟨_, rfl, rfl⟩
    · rw [if_neg a]
      by_cases b : nI 36 ≤ x1
      · rw [if_pos b]; exact ⟨_, rfl, rfl⟩
      · rw [if_neg b]
        by_cases c : x2 < 0
        · rw [if_pos c]; exact ⟨_, rfl, rfl⟩
        · rw [if_neg c]
          obtain ⟨b', hb', rfl⟩ := ((pk_ix x1 (n := 36) (by decide)).resolve_left a).resolve_left b
          rw [bd_e (cf_cellCount hb')]
          by_cases d : nI (sz b') ≤ x2
          · rw [if_pos d]; exact ⟨_, rfl, rfl⟩
          · rw [if_neg d]
            have hs := sz_le (b := b')
            obtain ⟨c', hc', rfl⟩ := ((pk_ix x2 (n := sz b') (by omega)).resolve_left c).resolve_left d
            refine ⟨nI (cl (σ 0) (σ 1) (σ 2) b' c'), ?_, ?_⟩
            · rw [bd_s, if_neg (by decide), bd_e (cf_cell hb' hc')]
            · rw [bd_s, if_neg (by decide), gr_e (30 * b' + c') (by rw [pk_mul, nI_add]) (by omega) (by decide)]
              show some (nI (rM (σ 0) (σ 1) (σ 2) (30 * b' + c'))) = _
              have e1 : (30 * b' + c') / 30 = b' := by omega
              have e2 : (30 * b' + c') % 30 = c' := by omega
              unfold rM cl
              rw [e1, e2, if_pos ⟨by omega, hc'⟩]
  obtain ⟨r, e1, e2⟩ := key
  exact ⟨r, e1, e2, σ, Inv_s hI hn, rfl, rfl, rfl, h3, h4, h5, h6, h7, h8, h9, h10, h11, rfl, h13, hrest⟩
theorem st_lookup (F : Nat) (hF : 36 < F) : St_lookup F Rl0 := by
  intro n v0 v1 v2 v3 v4 v5 v6 v7 v8 v9 v10 v11 v12 v13 r0 r1 r2 r3 r4 r5 r6 r7 r8 r9 r10 r11 x1 x2 hn hR
  obtain ⟨σ, hI, h0, h1, h2, h3, h4, h5, h6, h7, h8, h9, h10, h11, h12, h13, h14, h15, h16, h17, h18, h19, ⟨S1, h20⟩, hrest⟩ := hR
  subst h1 h2 h3 h12 h20
  have hT := Inv_VT1 hI
  have hE := VEm hI.2.1
  obtain ⟨q', eq⟩ := cf_isTree2 (F := F) v4 x1 (by omega) hT hE
  obtain ⟨S', eS⟩ := cf_holds (F := F) (A := σ 0) (dsk := r1) (fresh := r2) (kk := 2) S1 x1 (by omega) hT hE (by omega)
  have key : ∃ r S'', s_V_lookup F (zz (σ 1)) (zz (σ 2)) (zz z1) x1 x2 v4 = some (r, q') ∧ s_R_lookup F (zz (rM (σ 0) (σ 1) (σ 2))) r1 r2 x1 x2 (bz S1) = some (r, bz S'') := by
    unfold s_V_lookup s_R_lookup
    rw [isName_same, bd_e eq]
    show ∃ r S'', (if pif _ (nI 1) (nI 0) = 0 then _ else _) = _ ∧ _
    by_cases ht : isT (σ 1) (σ 2) 2 x1
    · rw [if_neg (fun z => pif01.mp z ht)]
      obtain ⟨d, hd, rfl, t, h2⟩ := ht
      have ht : isT (σ 1) (σ 2) 2 (nI d) := ⟨d, hd, rfl, t, h2⟩
      have hp := tree_pt hI.2.1 t h2
      rcases isName_or x2 with ⟨m, m1, m2, rfl⟩ | ⟨en, -⟩
      · have hEd : ∀ c, c < 8 → en (σ 1) (σ 2) z1 d c < 2 ^ 31 := fun c hc => (hE d c hd hc).1
        rw [bd_e (cf_cellOfName (by omega) hT z1_le hd m1 m2 hEd), bd_e (cf_isName_t m1 m2), if_neg (show ¬ nI 1 = 0 by decide), bd_e eS]
        show ∃ r S'', _ ∧ (if pif _ (nI 1) (nI 0) = 0 then _ else _) = _
        rw [if_neg (fun z => pif01.mp z ht), bd_e (cf_find (by omega) hT hd h2 hp (by omega) hEd)]
        by_cases hc : sr (fun c => en (σ 1) (σ 2) z1 d c / 32 = m) 8 < 8
        · have hv := (hE d _ hd hc).1
          rw [ans_t hc, if_neg (nI_m1 (by omega)), bd_e (cf_entry hT z1_le hd hc), if_pos (nI_pos' (by omega)), bd_e (cf_at hd (by omega)), rd_t hd (by omega), rd_w (isD_p hT hd (by omega) hp) hc]
          rw [en_m h2 hp] at hv ⊢
          exact ⟨_, S', rfl, rfl⟩
        · rw [ans_f hc, if_pos rfl, if_neg (show ¬ (0 : Int32) ≤ -1 by decide)]
          exact ⟨_, S', rfl, rfl⟩
      · rw [bd_e (cf_cellOfName_n en), if_pos rfl, bd_e en, if_pos (show nI 0 = 0 from rfl)]
        exact ⟨_, S1, rfl, rfl⟩
    · rw [if_pos (pif01.mpr ht)]
      rcases isName_or x2 with ⟨m, m1, m2, rfl⟩ | ⟨en, -⟩
      · rw [bd_e (cf_isName_t m1 m2), if_neg (show ¬ nI 1 = 0 by decide), bd_e eS]
        show ∃ r S'', _ ∧ (if pif _ (nI 1) (nI 0) = 0 then _ else _) = _
        rw [if_pos (pif01.mpr ht)]
        exact ⟨_, S', rfl, rfl⟩
      · rw [bd_e en, if_pos (show nI 0 = 0 from rfl)]
        exact ⟨_, S1, rfl, rfl⟩
  obtain ⟨r, S'', e1, e2⟩ := key
  exact ⟨r, q', _, e1, e2, σ, Inv_s hI hn, h0, rfl, rfl, rfl, h4, h5, h6, h7, h8, h9, h10, h11, rfl, h13, h14, h15, h16, h17, h18, h19, ⟨S'', rfl⟩, hrest⟩
