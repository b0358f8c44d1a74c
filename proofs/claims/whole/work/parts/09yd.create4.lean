theorem cr_59 {n F : Nat} {σ : St} {d m : Nat} {x3 : Int32} {q q2 : AR} {C : Nat → Nat} {S1 S2 S3 : Nat → Prop} (hx : x3 = 0 ∨ x3 = 1) (hF : 36 < F) (hn : n < 512) (hI : Inv n σ) (hd : d < 18) (t : Tr (Ed (σ 1) (σ 2) z1) 0 d) (h2 : kd (σ 1) d = 2) (m1 : 1 ≤ m) (m2 : m ≤ 999) (hr : rmN σ d x3) :
    ∃ r ρ, Inv (n + 1) ρ ∧ s_V_create_59 F (zz z1) (nI d) (nI m) x3 (zz (σ 0)) (zz (σ 1)) (zz (σ 2)) q (zz (σ 3)) (zz (σ 4)) (zz (σ 5)) (zz (σ 6)) q2 (zz (σ 7)) (zz (σ 8)) (zz (σ 9)) (nI (σ 10 0)) = OutV r ρ q q2 ∧
    s_R_create_57 F (nI d) (nI m) x3 (bz (yb σ)) (zz (σ 8)) (zz (rM (σ 0) (σ 1) (σ 2))) (zz (rM (σ 3) (σ 4) (σ 5))) (zz (σ 6)) (bz (fun i => σ 9 i = 2)) (zz (owd σ)) (zz C) (bz S1) (bz S2) (bz S3) (nI (σ 10 0)) = OutR r ρ C S1 S2 S3 := by
  rcases hx with rfl | rfl
  · exact cr_file hF hn hI hd t h2 m1 m2 hr
  · exact cr_dir hF hn hI hd t h2 m1 m2 hr
theorem st_create (F : Nat) (hF : 36 < F) (hS : SYN F) : St_create F Rl0 := by
  intro n v0 v1 v2 v3 v4 v5 v6 v7 v8 v9 v10 v11 v12 v13 r0 r1 r2 r3 r4 r5 r6 r7 r8 r9 r10 r11 x1 x2 x3 hn hR hx
  obtain ⟨σ, hI, h0, h1, h2, h3, h4, h5, h6, h7, h8, h9, h10, h11, h12, h13, h14, h15, h16, h17, h18, ⟨C, h19⟩, ⟨S1, h20⟩, ⟨S2, h21⟩, ⟨S3, h22⟩, h23⟩ := hR
  subst h0 h1 h2 h3 h4 h5 h6 h7 h8 h9 h10 h11 h12 h13 h14 h15 h16 h17 h18 h19 h20 h21 h22 h23
  have hI' := Inv_s hI hn
  suffices key : ∃ r σ' q' q2' C' S1' S2' S3', Inv (n + 1) σ' ∧ s_V_create F (zz z1) x1 x2 x3 (zz (σ 0)) (zz (σ 1)) (zz (σ 2)) v4 (zz (σ 3)) (zz (σ 4)) (zz (σ 5)) (zz (σ 6)) v9 (zz (σ 7)) (zz (σ 8)) (zz (σ 9)) (nI (σ 10 0)) = OutV r σ' q' q2' ∧ s_R_create F x1 x2 x3 (bz (yb σ)) (zz (σ 8)) (zz (rM (σ 0) (σ 1) (σ 2))) (zz (rM (σ 3) (σ 4) (σ 5))) (zz (σ 6)) (bz (fun i => σ 9 i = 2)) (zz (owd σ)) (zz C) (bz S1) (bz S2) (bz S3) (nI (σ 10 0)) = OutR r σ' C' S1' S2' S3' by
    obtain ⟨r, σ', q', q2', C', S1', S2', S3', hJ, eV, eR⟩ := key
    exact ⟨r, _, _, _, _, _, _, _, _, _, _, _, _, _, _, _, _, _, _, _, _, _, _, _, _, _, eV, eR, σ', hJ, rfl, rfl, rfl, rfl, rfl, rfl, rfl, rfl, rfl, rfl, rfl, rfl, rfl, rfl, rfl, rfl, rfl, rfl, rfl, ⟨C', rfl⟩, ⟨S1', rfl⟩, ⟨S2', rfl⟩, ⟨S3', rfl⟩, rfl⟩
  have hT := Inv_VT1 hI
  have hE := VEm hI.2.1
  obtain ⟨q1, eq1⟩ := cf_isTree2 (F := F) v4 x1 (by omega) hT hE
  obtain ⟨S4, eS1⟩ := cf_holds (F := F) (A := σ 0) (dsk := zz (rM (σ 3) (σ 4) (σ 5))) (fresh := zz (σ 6)) (kk := 2) S1 x1 (by omega) hT hE (by omega)
  unfold s_V_create s_R_create
  rw [isName_same, bd_e eq1]
  rcases isName_or x2 with ⟨m, m1, m2, rfl⟩ | ⟨en0, -⟩
  · rw [bd_e (cf_isName_t m1 m2), if_neg nn1, bd_e eS1]
    by_cases ht : isT (σ 1) (σ 2) 2 x1
    · rw [pif_t ht]
      show ∃ r σ' q' q2' C' S1' S2' S3', Inv (n + 1) σ' ∧ (if nI 1 = 0 then _ else _) = _ ∧ (if nI 1 = 0 then _ else _) = _
      rw [if_neg nn1, if_neg nn1, bd_e (cf_isName_t m1 m2), if_neg nn1]
      obtain ⟨d, hd, rfl, t, h2⟩ := ht
      have hp := tree_pt hI.2.1 t h2
      have hEd : ∀ c, c < 8 → en (σ 1) (σ 2) z1 d c < 2 ^ 31 := fun c hc => (hE d c hd hc).1
      have eC := cf_cellOfName (F := F) (m := m) (by omega) hT z1_le hd m1 m2 hEd
      have eF := cf_find (F := F) (A := σ 0) (T := σ 1) (W := σ 2) (m := m) (by omega) hT hd h2 hp (by omega) hEd
      have eN := cf_entries (F := F) (A := σ 0) (T := σ 1) (W := σ 2) (by omega) hT hd h2 hp hEd
      have eM := cf_entryCount (F := F) (by omega) hT z1_le hd hEd
      have hcn := cn_le (P := fun c' => en (σ 1) (σ 2) z1 d c' ≠ 0) (n := 8)
      unfold s_V_refusalOfEntry
      rw [bd_e eC, bd_e eF]
      by_cases hc : sr (fun c => en (σ 1) (σ 2) z1 d c / 32 = m) 8 < 8
      · rw [ans_t hc]
        refine ⟨-2, σ, q1, v9, C, S4, S2, S3, hI', ?_, ?_⟩
        · rw [if_neg (nI_m1 (by omega))]; rfl
        · rw [if_neg (nI_pos (by omega))]
      · rw [ans_f hc]
        rw [if_pos rfl, if_pos (show (-1 : Int32) < 0 by decide), bd_e eM, bd_e eN]
        by_cases h8 : cn (fun c' => en (σ 1) (σ 2) z1 d c' ≠ 0) 8 = 8
        · rw [h8, if_pos rfl, if_pos rfl]
          exact ⟨-3, σ, _, _, _, _, _, _, hI', rfl, rfl⟩
        · have h8' : ¬ nI (cn (fun c' => en (σ 1) (σ 2) z1 d c' ≠ 0) 8) = nI 8 := fun z => h8 ((nI32 (by omega) (by omega)).mp z)
          rw [if_neg h8', if_neg h8', bd_s, if_pos (show nI 0 = 0 from rfl), bd_e (lk_V hF hI hd h2 hp), bd_e (ro_R hF hI hd h2 hp hx)]
          by_cases hr : rmN σ d x3
          · rw [pif_t hr, pif_t hr, if_pos (show nI 0 = 0 from rfl), if_neg nn1]
            obtain ⟨r, ρ, a, b, c⟩ := cr_59 (F := F) (q := q1) (q2 := v9) (C := C) (S1 := S4) (S2 := S2) (S3 := S3) hx hF hn hI hd t h2 m1 m2 hr
            exact ⟨r, ρ, q1, v9, C, S4, S2, S3, a, b, c⟩
          · rw [pif_f hr, pif_f hr, if_neg nn1, if_pos (show nI 0 = 0 from rfl)]
            obtain ⟨r, τ, q', q2', C', T1, T2, T3, hJ, hK, hA, eV, eR⟩ := hS n σ q1 v9 C S4 S2 S3 hI
            rw [bd_e eV, bd_e eR]
            obtain ⟨-, t', kd', pt', -⟩ := Kp_tree hJ.2.1 hI.2.1 hK t
            have h2' : kd (τ 1) d = 2 := by rw [kd']; exact h2
            have hp' := tree_pt hJ.2.1 t' h2'
            have eL := lk_V (x3 := x3) hF hJ hd h2' hp'
            rw [hK.1] at eL
            show ∃ r σ' q' q2' C' S1' S2' S3', Inv (n + 1) σ' ∧ bd (s_V_lacksForNew F (zz (τ 0)) (zz (τ 1)) (zz (σ 2)) (zz z1) (zz (τ 5)) (zz (τ 6)) (nI d) x3) _ = _ ∧ _
            rw [bd_e eL]
            by_cases hr' : rmN τ d x3
            · rw [pif_t hr', if_pos (show nI 0 = 0 from rfl)]
              obtain ⟨r, ρ, a, b, c⟩ := cr_59 (F := F) (q := q') (q2 := q2') (C := C') (S1 := T1) (S2 := T2) (S3 := T3) hx hF hn hJ hd t' h2' m1 m2 hr'
              rw [hK.1] at b
              exact ⟨r, ρ, q', q2', C', T1, T2, T3, a, b, c⟩
            · rw [pif_f hr', if_neg nn1]
              refine ⟨-3, τ, q', q2', C', T1, T2, T3, Inv_s hJ hn, by rw [← hK.1], ?_⟩
              show s_R_create_57 F (nI d) (nI m) x3 (bz (yb τ)) (zz (τ 8)) (zz (rM (τ 0) (τ 1) (τ 2))) (zz (rM (τ 3) (τ 4) (τ 5))) (zz (τ 6)) (bz (fun i => τ 9 i = 2)) (zz (owd τ)) (zz C') (bz T1) (bz T2) (bz T3) (nI (τ 10 0)) = _
              unfold s_R_create_57
              rw [bd_e (ro_R hF hJ hd h2' hp' hx), pif_f hr', if_pos (show nI 0 = 0 from rfl)]
    · rw [pif_f ht]
      exact ⟨-1, σ, _, _, _, _, _, _, hI', rfl, rfl⟩
  · rw [bd_e en0, if_pos (show nI 0 = 0 from rfl)]
    by_cases ht : isT (σ 1) (σ 2) 2 x1
    · rw [pif_t ht]
      refine ⟨-1, σ, q1, v9, C, S1, S2, S3, hI', ?_, rfl⟩
      show (if nI 1 = 0 then _ else _) = _
      rw [if_neg nn1, bd_e en0]; rfl
    · rw [pif_f ht]
      exact ⟨-1, σ, _, _, _, _, _, _, hI', rfl, rfl⟩
