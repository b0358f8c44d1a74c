theorem st_write (F : Nat) (hF : 36 < F) (hS : SYN F) : St_write F Rl0 := by
  intro n v0 v1 v2 v3 v4 v5 v6 v7 v8 v9 v10 v11 v12 v13 r0 r1 r2 r3 r4 r5 r6 r7 r8 r9 r10 r11 x1 x2 x3 hn hR
  obtain ⟨σ, hI, h0, h1, h2, h3, h4, h5, h6, h7, h8, h9, h10, h11, h12, h13, h14, h15, h16, h17, h18, ⟨C, h19⟩, ⟨S1, h20⟩, ⟨S2, h21⟩, ⟨S3, h22⟩, h23⟩ := hR
  subst h0 h1 h2 h3 h4 h5 h6 h7 h8 h9 h10 h11 h12 h13 h14 h15 h16 h17 h18 h19 h20 h21 h22 h23
  have hI' := Inv_s hI hn
  suffices key : ∃ r σ' q' q2' C' S1' S2' S3', Inv (n + 1) σ' ∧ s_V_write F (zz z1) x1 x2 x3 (zz (σ 0)) (zz (σ 1)) (zz (σ 2)) v4 (zz (σ 3)) (zz (σ 4)) (zz (σ 5)) (zz (σ 6)) v9 (zz (σ 7)) (zz (σ 8)) (zz (σ 9)) (nI (σ 10 0)) = OutV r σ' q' q2' ∧ s_R_write F x1 x2 x3 (bz (yb σ)) (zz (σ 8)) (zz (rM (σ 0) (σ 1) (σ 2))) (zz (rM (σ 3) (σ 4) (σ 5))) (zz (σ 6)) (bz (fun i => σ 9 i = 2)) (zz (owd σ)) (zz C) (bz S1) (bz S2) (bz S3) (nI (σ 10 0)) = OutR r σ' C' S1' S2' S3' by
    obtain ⟨r, σ', q', q2', C', S1', S2', S3', hJ, eV, eR⟩ := key
    exact ⟨r, _, _, _, _, _, _, _, _, _, _, _, _, _, _, _, _, _, _, _, _, _, _, _, _, _, eV, eR, σ', hJ, rfl, rfl, rfl, rfl, rfl, rfl, rfl, rfl, rfl, rfl, rfl, rfl, rfl, rfl, rfl, rfl, rfl, rfl, rfl, ⟨C', rfl⟩, ⟨S1', rfl⟩, ⟨S2', rfl⟩, ⟨S3', rfl⟩, rfl⟩
  have hT := Inv_VT1 hI
  have hE := VEm hI.2.1
  obtain ⟨q1, eq1⟩ := cf_isTree1 (F := F) v4 x1 (by omega) hT hE
  obtain ⟨S4, eS1⟩ := cf_holds (F := F) (A := σ 0) (dsk := zz (rM (σ 3) (σ 4) (σ 5))) (fresh := zz (σ 6)) (kk := 1) S1 x1 (by omega) hT hE (by omega)
  unfold s_V_write s_R_write s_V_isWord s_V_isWord_14
  rw [bd_e eq1]
  by_cases ht : isT (σ 1) (σ 2) 1 x1
  · rw [pif_t ht] at eS1
    rw [pif_t ht]
    show ∃ r σ' q' q2' C' S1' S2' S3', Inv (n + 1) σ' ∧ (if nI 1 = 0 then _ else _) = _ ∧ _
    rw [if_neg nn1]
    obtain ⟨i, hi, rfl, t, hk⟩ := ht
    by_cases a : x2 < 0
    · rw [if_pos a, if_pos a, bd_s, if_pos (show nI 0 = 0 from rfl)]; exact ⟨-1, σ, _, _, _, _, _, _, hI', rfl, rfl⟩
    · rw [if_neg a, if_neg a]
      by_cases b : nI 24 ≤ x2
      · have b' : nI 23 < x2 := by
          have := Int32.le_iff_toInt_le.mp b
          rw [nI_toInt (by decide)] at this
          exact Int32.lt_iff_toInt_lt.mpr (by rw [nI_toInt (by decide)]; omega)
        rw [if_pos b, if_pos b', bd_s, if_pos (show nI 0 = 0 from rfl)]; exact ⟨-1, σ, _, _, _, _, _, _, hI', rfl, rfl⟩
      · obtain ⟨w, hw, rfl⟩ := ((pk_ix x2 (n := 24) (by decide)).resolve_left a).resolve_left b
        obtain ⟨v, hv, rfl⟩ := nI_all x3
        rw [if_neg b, if_neg (nI_nlt (by omega) (by omega)), bd_s, if_neg nn1, pk_div (a := w) (d := 8) (by omega) (by decide) (by decide), bd_e (cf_pointer hi (by omega)), bd_e eS1]
        show ∃ r σ' q' q2' C' S1' S2' S3', Inv (n + 1) σ' ∧ _ ∧ (if nI 1 = 0 then _ else _) = _
        rw [if_neg nn1, nI_add, bd_e (cf_at hi (by omega)), rd_t hi (by omega), show 5 * i + (2 + w / 8) = 5 * i + 2 + w / 8 by omega]
        have hp := VT_p hT hi (k := w / 8) (by omega)
        by_cases h0 : pt (σ 1) i (w / 8) = 0
        · have e0 : σ 1 (5 * i + 2 + w / 8) = 0 := h0
          rw [if_pos (show nI (pt (σ 1) i (w / 8)) = 0 by rw [h0]; rfl), if_pos (show nI (σ 1 (5 * i + 2 + w / 8)) = 0 by rw [e0]; rfl), bd_e (cf_blockForPointer hF hT (fun m hm => ((Inw_V5 hI.2.1).1 m hm).1) hi (show w / 8 < 3 by omega)), bd_e (cf_blockFor hF hT (fun m hm => ((Inw_V5 hI.2.1).1 m hm).1) hi (show w / 8 < 3 by omega))]
          rcases bfp_or (M := σ 0) hT hi (show w / 8 < 3 by omega) with hf | ⟨c, hc, hm, hf⟩
          · rw [hf, if_pos rfl, if_neg (show ¬ (0 : Int32) ≤ -1 by decide)]
            obtain ⟨r, τ, q', q2', C', T1, T2, T3, hJ, hK, hA, eV, eR⟩ := hS n σ q1 v9 C S4 S2 S3 hI
            rw [bd_e eV, bd_e eR]
            obtain ⟨-, t', kd', pt', -⟩ := Kp_tree hJ.2.1 hI.2.1 hK t
            have hT' := Inv_VT1 hJ
            have hb' := cf_blockForPointer (F := F) (M := τ 0) (T := τ 1) hF hT' (fun m hm => ((Inw_V5 hJ.2.1).1 m hm).1) hi (show w / 8 < 3 by omega)
            have hp' : pt (τ 1) i (w / 8) = 0 := by rw [pt' _ (by omega)]; exact h0
            have hk' : kd (τ 1) i = 1 := by rw [kd']; exact hk
            show ∃ r σ' q' q2' C' S1' S2' S3', Inv (n + 1) σ' ∧ bd (s_V_blockForPointer F (zz (τ 0)) (zz (τ 1)) (nI i) (nI (w / 8))) _ = _ ∧ _
            rw [bd_e hb']
            rcases bfp_or (M := τ 0) hT' hi (show w / 8 < 3 by omega) with hf' | ⟨c, hc, hm, hf'⟩
            · refine ⟨-3, τ, q', q2', C', T1, T2, T3, Inv_s hJ hn, ?_, ?_⟩
              · rw [hf']
                unfold s_V_write_65
                rw [if_pos rfl, ← hK.1]
              · show s_R_write_58 F (nI i) (nI w) (nI v) (nI (w / 8)) (bz (yb τ)) (zz (τ 8)) (zz (rM (τ 0) (τ 1) (τ 2))) (zz (rM (τ 3) (τ 4) (τ 5))) (zz (τ 6)) (bz (fun i => τ 9 i = 2)) (zz (owd τ)) (zz C') (bz T1) (bz T2) (bz T3) (nI (τ 10 0)) = _
                unfold s_R_write_58
                rw [bd_e (cf_blockFor hF hT' (fun m hm => ((Inw_V5 hJ.2.1).1 m hm).1) hi (show w / 8 < 3 by omega)), hf', if_neg (show ¬ (0 : Int32) ≤ -1 by decide)]
            · obtain ⟨g1, g2⟩ := wr_65 (F := F) (q := q') (q2 := q2') (C := C') (S1 := T1) (S2 := T2) (S3 := T3) hF hJ.2.1 (by omega) hi rfl hw hp' hk' hv hc hm hf'
              obtain ⟨w1, w2, -, -⟩ := tk_Inw hJ.2.1 hi (show w / 8 < 3 by omega) hp' hc hm (by omega) (by omega)
              have w2 := w2 hJ.2.2
              have c0 : c ≠ 0 := by have := hc.2; intro z; rw [z] at this; omega
              have w3 := (wd_Inv (c := w % 8) w1 hi (show w / 8 < 3 by omega) (by rw [tk_pt1]; exact c0) (by rw [tk_kd (by omega)]; exact hk') (by omega) hv).1
              rw [tk_pt1] at w3
              rw [hf']
              rw [hK.1] at g1
              exact ⟨_, _, q', q2', C', T1, T2, T3, Inv_s ⟨hJ.1, w3, w2⟩ hn, g1, g2⟩
          · have hcb := hc.1
            rw [hf, if_neg (nI_m1 (by omega)), if_pos (nI_pos' (by omega))]
            obtain ⟨g1, g2⟩ := wr_65 (F := F) (q := q1) (q2 := v9) (C := C) (S1 := S4) (S2 := S2) (S3 := S3) hF hI.2.1 (by omega) hi rfl hw h0 hk hv hc hm hf
            obtain ⟨w1, w2, -, -⟩ := tk_Inw hI.2.1 hi (show w / 8 < 3 by omega) h0 hc hm (by omega) (by omega)
            have w2 := w2 hI.2.2
            have c0 : c ≠ 0 := by have := hc.2; intro z; rw [z] at this; omega
            have w3 := (wd_Inv (c := w % 8) w1 hi (show w / 8 < 3 by omega) (by rw [tk_pt1]; exact c0) (by rw [tk_kd (by omega)]; exact hk) (by omega) hv).1
            rw [tk_pt1] at w3
            exact ⟨_, _, _, _, _, _, _, _, Inv_s ⟨hI.1, w3, w2⟩ hn, g1, g2⟩
        · rw [if_neg (fun z => h0 ((nI0 (by omega)).mp z)), if_neg (fun z => h0 ((nI0 (show pt (σ 1) i (w / 8) < 2 ^ 31 by omega)).mp z))]
          obtain ⟨g1, g2⟩ := wr_92 (F := F) (q := q1) (q2 := v9) (C := C) (S1 := S4) (S2 := S2) (S3 := S3) hI.2.1 (by omega) hi rfl hw h0 hk hv
          exact ⟨_, _, _, _, _, _, _, _, Inv_s ⟨hI.1, (wd_Inv hI.2.1 hi (by omega) h0 hk (by omega) hv).1, hI.2.2⟩ hn, g1, g2⟩
  · rw [pif_f ht] at eS1
    rw [pif_f ht]
    by_cases a : x2 < 0
    · refine ⟨-1, σ, q1, v9, C, S1, S2, S3, hI', rfl, ?_⟩
      rw [if_pos a]
    · by_cases b : nI 23 < x2
      · refine ⟨-1, σ, q1, v9, C, S1, S2, S3, hI', rfl, ?_⟩
        rw [if_neg a, if_pos b]
      · refine ⟨-1, σ, q1, v9, C, S4, S2, S3, hI', rfl, ?_⟩
        rw [if_neg a, if_neg b, bd_e eS1]; rfl
