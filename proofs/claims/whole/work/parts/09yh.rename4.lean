theorem st_rename (F : Nat) (hF : 300 < F) (hS : SYN F) : St_rename F Rl0 := by
  intro n v0 v1 v2 v3 v4 v5 v6 v7 v8 v9 v10 v11 v12 v13 r0 r1 r2 r3 r4 r5 r6 r7 r8 r9 r10 r11 x1 x2 x3 x4 hn hR
  obtain ⟨σ, hI, h0, h1, h2, h3, h4, h5, h6, h7, h8, h9, h10, h11, h12, h13, h14, h15, h16, h17, h18, ⟨C, h19⟩, ⟨S1, h20⟩, ⟨S2, h21⟩, ⟨S3, h22⟩, h23⟩ := hR
  subst h0 h1 h2 h3 h4 h5 h6 h7 h8 h9 h10 h11 h12 h13 h14 h15 h16 h17 h18 h19 h20 h21 h22 h23
  have hI' := Inv_s hI hn
  suffices key : ∃ r σ' q' q2' C' S1' S2' S3', Inv (n + 1) σ' ∧ s_V_rename F (zz z1) x1 x2 x3 x4 (zz (σ 0)) (zz (σ 1)) (zz (σ 2)) v4 (zz (σ 3)) (zz (σ 4)) (zz (σ 5)) (zz (σ 6)) v9 (zz (σ 7)) (zz (σ 8)) (zz (σ 9)) (nI (σ 10 0)) = OutV r σ' q' q2' ∧ s_R_rename F x1 x2 x3 x4 (bz (yb σ)) (zz (σ 8)) (zz (rM (σ 0) (σ 1) (σ 2))) (zz (rM (σ 3) (σ 4) (σ 5))) (zz (σ 6)) (bz (fun i => σ 9 i = 2)) (zz (owd σ)) (zz C) (bz S1) (bz S2) (bz S3) (nI (σ 10 0)) = OutR r σ' C' S1' S2' S3' by
    obtain ⟨r, σ', q', q2', C', S1', S2', S3', hJ, eV, eR⟩ := key
    exact ⟨r, _, _, _, _, _, _, _, _, _, _, _, _, _, _, _, _, _, _, _, _, _, _, _, _, _, eV, eR, σ', hJ, rfl, rfl, rfl, rfl, rfl, rfl, rfl, rfl, rfl, rfl, rfl, rfl, rfl, rfl, rfl, rfl, rfl, rfl, rfl, ⟨C', rfl⟩, ⟨S1', rfl⟩, ⟨S2', rfl⟩, ⟨S3', rfl⟩, rfl⟩
  have hT := Inv_VT1 hI
  have hE := VEm hI.2.1
  obtain ⟨q1, eq1⟩ := cf_isTree2 (F := F) v4 x1 (by omega) hT hE
  obtain ⟨q3, eq3⟩ := cf_isTree2 (F := F) q1 x3 (by omega) hT hE
  obtain ⟨S4, eR1, eR0⟩ := cf_lookupR (F := F) (dsk := zz (rM (σ 3) (σ 4) (σ 5))) (fresh := zz (σ 6)) (x1 := x1) (x2 := x2) S1 (by omega) hI
  obtain ⟨S5, eS3⟩ := cf_holds (F := F) (A := σ 0) (dsk := zz (rM (σ 3) (σ 4) (σ 5))) (fresh := zz (σ 6)) (kk := 2) S4 x3 (by omega) hT hE (by omega)
  unfold s_V_rename s_R_rename
  rw [isName_same, bd_e eq1]
  by_cases hf : ∃ d m, fnd σ x1 x2 d m
  · obtain ⟨d, m, hfm⟩ := hf
    have eR := eR1 d m hfm
    obtain ⟨hd, rfl, t, h2, m1, m2, rfl, hc⟩ := hfm
    have ht : isT (σ 1) (σ 2) 2 (nI d) := ⟨d, hd, rfl, t, h2⟩
    have hp := tree_pt hI.2.1 t h2
    have hD := isD_p hT hd (k := 0) (by omega) hp
    have hEd : ∀ c, c < 8 → en (σ 1) (σ 2) z1 d c < 2 ^ 31 := fun c hc => (hE d c hd hc).1
    have eC := cf_cellOfName (F := F) (m := m) (by omega) hT z1_le hd m1 m2 hEd
    have hcs : en (σ 1) (σ 2) z1 d (sr (fun c => en (σ 1) (σ 2) z1 d c / 32 = m) 8) / 32 = m := (sr_spec _ _).2.1 hc
    rw [ans_t hc] at eC
    generalize hc1 : sr (fun c => en (σ 1) (σ 2) z1 d c / 32 = m) 8 = c at hc eR eC hcs
    rw [en_m h2 hp] at hcs
    have h0 : σ 2 (8 * pt (σ 1) d 0 + c) ≠ 0 := by intro z; rw [z] at hcs; omega
    obtain ⟨ok1, ekd, eim, epp, -⟩ := Inw_V11 hI.2.1 (8 * pt (σ 1) d 0 + c) (by have := hD.1; omega) (by rw [show (8 * pt (σ 1) d 0 + c) / 8 = pt (σ 1) d 0 by omega]; exact DBm hd h2 hp) h0
    have i18 := ok1.2.2.2
    have o2 := ok1.2.1
    have eE := cf_entry (W := σ 2) (B := z1) (c := c) hT z1_le hd hc
    rw [en_m h2 hp] at eE
    generalize hi : σ 2 (8 * pt (σ 1) d 0 + c) % 32 = i at eR ekd eim epp i18
    have hkb := VT_k hT i18
    rw [bd_e eR, pif_t ht]
    show ∃ r σ' q' q2' C' S1' S2' S3', Inv (n + 1) σ' ∧ (if nI 1 = 0 then _ else _) = _ ∧ (if nI i < 0 then _ else _) = _
    rw [if_neg nn1, if_neg (nI_pos (by omega)), bd_e eq3]
    rcases isName_or x4 with ⟨m4, m41, m42, rfl⟩ | ⟨en0, -⟩
    · rw [bd_e (cf_isName_t m41 m42), if_neg nn1, bd_e eS3]
      by_cases ht3 : isT (σ 1) (σ 2) 2 x3
      · rw [pif_t ht3]
        show ∃ r σ' q' q2' C' S1' S2' S3', Inv (n + 1) σ' ∧ (if nI 1 = 0 then _ else _) = _ ∧ (if nI 1 = 0 then _ else _) = _
        obtain ⟨d3, hd3, rfl, t3, k3⟩ := ht3
        have hp3 := tree_pt hI.2.1 t3 k3
        have hEd3 : ∀ c, c < 8 → en (σ 1) (σ 2) z1 d3 c < 2 ^ 31 := fun c hc => (hE d3 c hd3 hc).1
        have eC3 := cf_cellOfName (F := F) (m := m4) (by omega) hT z1_le hd3 m41 m42 hEd3
        have eF3 := cf_find (F := F) (A := σ 0) (T := σ 1) (W := σ 2) (m := m4) (by omega) hT hd3 k3 hp3 (by omega) hEd3
        rw [if_neg nn1, if_neg nn1, bd_e (cf_isName_t m41 m42), if_neg nn1, bd_e eC, if_neg (nI_m1 (by omega)), bd_e eE, pk_rem (by omega) (by decide) (by decide), hi, bd_e (cf_kind i18), bd_e eF3]
        by_cases hc3 : sr (fun c => en (σ 1) (σ 2) z1 d3 c / 32 = m4) 8 < 8
        · rw [ans_t hc3, if_neg (nI_pos (by omega))]
          refine ⟨-2, σ, q3, v9, C, S5, S2, S3, hI', ?_, rfl⟩
          unfold s_V_rename_78
          split <;> rw [bd_e eC3, ans_t hc3, if_neg (nI_m1 (by omega))]
        · have hno : ∀ c, c < 8 → ¬ en (σ 1) (σ 2) z1 d3 c / 32 = m4 := fun c hc z => hc3 (sr_lt.mpr ⟨c, hc, z⟩)
          rw [ans_f hc3, if_pos (show (-1 : Int32) < 0 by decide), bd_e (cf_at i18 (by omega)), rd_t i18 (by omega)]
          unfold s_V_rename_78 s_R_rename_65
          by_cases k2 : kd (σ 1) i = 2
          · rw [if_pos (show nI (kd (σ 1) i) = nI 2 from congrArg nI k2), if_pos (show nI (σ 1 (5 * i + 0)) = nI 2 from congrArg nI k2), bd_e eC3, ans_f hc3, if_pos rfl, if_neg nn1]
            obtain ⟨S6, e70⟩ := cf_rename_70 (F := F) (x1 := nI d) (x2 := nI m) (x4 := nI m4) (fl := nI 1) (mv := nI (σ 10 0)) (Y := bz (yb σ)) (D := zz (σ 8)) (dsk := zz (rM (σ 3) (σ 4) (σ 5))) (fr := zz (σ 6)) (R := bz (fun i => σ 9 i = 2)) (O := zz (owd σ)) (Cc := zz C) (I1 := bz S5) (I2 := bz S2) (by omega) hI hd3 i18 18 0 F S3 rfl (by omega) (fun j hj => absurd hj (Nat.not_lt_zero _))
            rw [if_neg nn1] at e70
            obtain ⟨Sx, q', er, hSx⟩ := cf_reach (F := F) (s0 := i) q3 (by omega) hT z1_le hE i18
            rw [e70, bd_e er]
            show ∃ r σ' q' q2' C' S1' S2' S3', Inv (n + 1) σ' ∧ bd (s_V_has Sx (nI d3)) _ = _ ∧ _
            rw [bd_e (cf_has (by omega))]
            by_cases tt : Tr (Ed (σ 1) (σ 2) z1) i d3
            · rw [if_pos ((hSx d3 (by omega)).mpr tt), pif_t tt, if_neg nn1]
              exact ⟨-4, σ, q', v9, C, S5, S2, S6, hI', rfl, rfl⟩
            · rw [if_neg (fun z => tt ((hSx d3 (by omega)).mp z)), pif_f tt, if_pos (show nI 0 = 0 from rfl)]
              exact rn_121 hF hS hn hI hd t h2 hd3 t3 k3 m1 m2 m41 m42 hc hc1 hi hno
          · rw [if_neg (fun z => k2 ((nI32 (by omega) (by omega)).mp z)), if_neg (show ¬ nI (σ 1 (5 * i + 0)) = nI 2 from fun z => k2 ((nI32 (by show kd (σ 1) i < _; omega) (by omega)).mp z)), bd_e eC3, ans_f hc3, if_pos rfl, if_pos (show nI 0 = 0 from rfl)]
            obtain ⟨S6, e70⟩ := cf_rename_70 (F := F) (x1 := nI d) (x2 := nI m) (x4 := nI m4) (fl := nI 0) (mv := nI (σ 10 0)) (Y := bz (yb σ)) (D := zz (σ 8)) (dsk := zz (rM (σ 3) (σ 4) (σ 5))) (fr := zz (σ 6)) (R := bz (fun i => σ 9 i = 2)) (O := zz (owd σ)) (Cc := zz C) (I1 := bz S5) (I2 := bz S2) (by omega) hI hd3 i18 18 0 F S3 rfl (by omega) (fun j hj => absurd hj (Nat.not_lt_zero _))
            rw [if_pos (show nI 0 = 0 from rfl)] at e70
            rw [e70]
            exact rn_121 hF hS hn hI hd t h2 hd3 t3 k3 m1 m2 m41 m42 hc hc1 hi hno
      · rw [pif_f ht3]
        exact ⟨-1, σ, q3, v9, C, S5, S2, S3, hI', rfl, rfl⟩
    · rw [bd_e en0, if_pos (show nI 0 = 0 from rfl)]
      by_cases ht3 : isT (σ 1) (σ 2) 2 x3
      · rw [pif_t ht3]
        refine ⟨-1, σ, q3, v9, C, S4, S2, S3, hI', ?_, rfl⟩
        show (if nI 1 = 0 then _ else _) = _
        rw [if_neg nn1, bd_e en0]; rfl
      · rw [pif_f ht3]
        exact ⟨-1, σ, q3, v9, C, S4, S2, S3, hI', rfl, rfl⟩
  · have eR := eR0 (fun d m z => hf ⟨d, m, z⟩)
    rw [bd_e eR]
    by_cases ht : isT (σ 1) (σ 2) 2 x1
    · rw [pif_t ht]
      show ∃ r σ' q' q2' C' S1' S2' S3', Inv (n + 1) σ' ∧ (if nI 1 = 0 then _ else _) = _ ∧ _
      rw [if_neg nn1, bd_e eq3]
      by_cases ht3 : isT (σ 1) (σ 2) 2 x3
      · rw [pif_t ht3]
        refine ⟨-1, σ, q3, v9, C, S4, S2, S3, hI', ?_, rfl⟩
        show (if nI 1 = 0 then _ else _) = _
        rw [if_neg nn1]
        rcases isName_or x4 with ⟨m4, m41, m42, rfl⟩ | ⟨en0, -⟩
        · rw [bd_e (cf_isName_t m41 m42), if_neg nn1]
          obtain ⟨d, hd, rfl, t, h2⟩ := ht
          rcases isName_or x2 with ⟨m, m1, m2, rfl⟩ | ⟨en1, -⟩
          · have hEd : ∀ c, c < 8 → en (σ 1) (σ 2) z1 d c < 2 ^ 31 := fun c hc => (hE d c hd hc).1
            rw [bd_e (cf_cellOfName (by omega) hT z1_le hd m1 m2 hEd), ans_f (fun hc => hf ⟨d, m, hd, rfl, t, h2, m1, m2, rfl, hc⟩), if_pos rfl]
          · rw [bd_e (cf_cellOfName_n en1), if_pos rfl]
        · rw [bd_e en0, if_pos (show nI 0 = 0 from rfl)]
      · rw [pif_f ht3]
        exact ⟨-1, σ, q3, v9, C, S4, S2, S3, hI', rfl, rfl⟩
    · rw [pif_f ht]
      exact ⟨-1, σ, q1, v9, C, S4, S2, S3, hI', rfl, rfl⟩
