theorem cn_true {n : Nat} : cn (fun _ => True) n = n := by
  induction n with
  | zero => rfl
  | succ n ih => rw [cn_t trivial, ih]
theorem nn1 : ¬ (nI 1 : Int32) = 0 := by decide
theorem st_link (F : Nat) (hF : 36 < F) (hS : SYN F) : St_link F Rl0 := by
  intro n v0 v1 v2 v3 v4 v5 v6 v7 v8 v9 v10 v11 v12 v13 r0 r1 r2 r3 r4 r5 r6 r7 r8 r9 r10 r11 x1 x2 x3 hn hR
  obtain ⟨σ, hI, h0, h1, h2, h3, h4, h5, h6, h7, h8, h9, h10, h11, h12, h13, h14, h15, h16, h17, h18, ⟨C, h19⟩, ⟨S1, h20⟩, ⟨S2, h21⟩, ⟨S3, h22⟩, h23⟩ := hR
  subst h0 h1 h2 h3 h4 h5 h6 h7 h8 h9 h10 h11 h12 h13 h14 h15 h16 h17 h18 h19 h20 h21 h22 h23
  have hI' := Inv_s hI hn
  suffices key : ∃ r σ' q' q2' C' S1' S2' S3', Inv (n + 1) σ' ∧ s_V_link F (zz z1) x1 x2 x3 (zz (σ 0)) (zz (σ 1)) (zz (σ 2)) v4 (zz (σ 3)) (zz (σ 4)) (zz (σ 5)) (zz (σ 6)) v9 (zz (σ 7)) (zz (σ 8)) (zz (σ 9)) (nI (σ 10 0)) = OutV r σ' q' q2' ∧ s_R_link F x1 x2 x3 (bz (yb σ)) (zz (σ 8)) (zz (rM (σ 0) (σ 1) (σ 2))) (zz (rM (σ 3) (σ 4) (σ 5))) (zz (σ 6)) (bz (fun i => σ 9 i = 2)) (zz (owd σ)) (zz C) (bz S1) (bz S2) (bz S3) (nI (σ 10 0)) = OutR r σ' C' S1' S2' S3' by
    obtain ⟨r, σ', q', q2', C', S1', S2', S3', hJ, eV, eR⟩ := key
    exact ⟨r, _, _, _, _, _, _, _, _, _, _, _, _, _, _, _, _, _, _, _, _, _, _, _, _, _, eV, eR, σ', hJ, rfl, rfl, rfl, rfl, rfl, rfl, rfl, rfl, rfl, rfl, rfl, rfl, rfl, rfl, rfl, rfl, rfl, rfl, rfl, ⟨C', rfl⟩, ⟨S1', rfl⟩, ⟨S2', rfl⟩, ⟨S3', rfl⟩, rfl⟩
  have hT := Inv_VT1 hI
  have hE := VEm hI.2.1
  obtain ⟨q1, eq1⟩ := cf_isTree2 (F := F) v4 x1 (by omega) hT hE
  obtain ⟨q3, eq3⟩ := cf_isTree1 (F := F) q1 x3 (by omega) hT hE
  obtain ⟨S4, eS1⟩ := cf_holds (F := F) (A := σ 0) (dsk := zz (rM (σ 3) (σ 4) (σ 5))) (fresh := zz (σ 6)) (kk := 2) S1 x1 (by omega) hT hE (by omega)
  obtain ⟨S5, eS3⟩ := cf_holds (F := F) (A := σ 0) (dsk := zz (rM (σ 3) (σ 4) (σ 5))) (fresh := zz (σ 6)) (kk := 1) S4 x3 (by omega) hT hE (by omega)
  unfold s_V_link s_R_link
  rw [isName_same, bd_e eq1]
  rcases isName_or x2 with ⟨m, m1, m2, rfl⟩ | ⟨en0, -⟩
  · rw [bd_e (cf_isName_t m1 m2), if_neg nn1, bd_e eS1]
    by_cases ht : isT (σ 1) (σ 2) 2 x1
    · rw [pif_t ht]
      show ∃ r σ' q' q2' C' S1' S2' S3', Inv (n + 1) σ' ∧ (if nI 1 = 0 then _ else _) = _ ∧ (if nI 1 = 0 then _ else _) = _
      rw [if_neg nn1, if_neg nn1, bd_e (cf_isName_t m1 m2), if_neg nn1, bd_e eq3, bd_e eS3]
      by_cases hf : isT (σ 1) (σ 2) 1 x3
      · rw [pif_t hf]
        show ∃ r σ' q' q2' C' S1' S2' S3', Inv (n + 1) σ' ∧ (if nI 1 = 0 then _ else _) = _ ∧ (if nI 1 = 0 then _ else _) = _
        rw [if_neg nn1, if_neg nn1]
        obtain ⟨d, hd, rfl, t, h2⟩ := ht
        obtain ⟨i, i18, rfl, ti, k1⟩ := hf
        have i0 : 0 < i := by
          refine Nat.pos_of_ne_zero fun z => ?_
          rw [z, hI.2.1.2.2.2.1.1.1] at k1; omega
        have hp := tree_pt hI.2.1 t h2
        have hEd : ∀ c, c < 8 → en (σ 1) (σ 2) z1 d c < 2 ^ 31 := fun c hc => (hE d c hd hc).1
        have eC := cf_cellOfName (F := F) (m := m) (by omega) hT z1_le hd m1 m2 hEd
        have eF := cf_find (F := F) (A := σ 0) (T := σ 1) (W := σ 2) (m := m) (by omega) hT hd h2 hp (by omega) hEd
        have eN := cf_entries (F := F) (A := σ 0) (T := σ 1) (W := σ 2) (by omega) hT hd h2 hp hEd
        have eM := cf_entryCount (F := F) (by omega) hT z1_le hd hEd
        have hcn := cn_le (P := fun c' => en (σ 1) (σ 2) z1 d c' ≠ 0) (n := 8)
        unfold s_V_refusalOfEntry
        rw [bd_e eC, bd_e eF]
        by_cases hc : sr (fun c => en (σ 1) (σ 2) z1 d c / 32 = m) 8 < 8
        · rw [ans_t hc]
          refine ⟨-2, σ, q3, v9, C, S5, S2, S3, hI', ?_, ?_⟩
          · rw [if_neg (nI_m1 (by omega))]; rfl
          · rw [if_neg (nI_pos (by omega))]
        · rw [ans_f hc]
          rw [if_pos rfl, if_pos (show (-1 : Int32) < 0 by decide), bd_e eM, bd_e eN]
          by_cases h8 : cn (fun c' => en (σ 1) (σ 2) z1 d c' ≠ 0) 8 = 8
          · rw [h8, if_pos rfl, if_pos rfl]
            exact ⟨-3, σ, _, _, _, _, _, _, hI', rfl, rfl⟩
          · have h8' : ¬ nI (cn (fun c' => en (σ 1) (σ 2) z1 d c' ≠ 0) 8) = nI 8 := fun z => h8 ((nI32 (by omega) (by omega)).mp z)
            rw [if_neg h8', if_neg h8']
            rw [bd_s]
            rw [if_pos (show nI 0 = 0 from rfl), bd_e (pl_V (by omega) hI hd h2 hp), bd_e (pl_R (by omega) hI hd h2 hp)]
            by_cases hpl : sr (pc0 (σ 1) (σ 2) (σ 5) (σ 6) d) 8 < 8
            · rw [ans_t hpl, if_neg (nI_m1 (by omega)), if_pos (nI_pos' (by omega))]
              obtain ⟨a, b⟩ := lk_core (F := F) (q := q3) (q2 := v9) (C := C) (S1 := S5) (S2 := S2) (S3 := S3) (by omega) hn hI hd t h2 hpl rfl m1 m2 i0 i18
              exact ⟨_, _, _, _, _, _, _, _, en_Inv hn hI hd t h2 hpl ((sr_spec _ _).2.1 hpl) m1 m2 i0 i18 ti, a, b⟩
            · rw [ans_f hpl, if_pos rfl, if_neg (show ¬ (0 : Int32) ≤ -1 by decide)]
              obtain ⟨r, τ, q', q2', C', T1, T2, T3, hJ, hK, hA, eV, eR⟩ := hS n σ q3 v9 C S5 S2 S3 hI
              rw [bd_e eV, bd_e eR]
              obtain ⟨-, t', kd', pt', -⟩ := Kp_tree hJ.2.1 hI.2.1 hK t
              obtain ⟨-, ti', -, -, -⟩ := Kp_tree hJ.2.1 hI.2.1 hK ti
              have h2' : kd (τ 1) d = 2 := by rw [kd']; exact h2
              have hp' := tree_pt hJ.2.1 t' h2'
              have hpl' : sr (pc0 (τ 1) (τ 2) (τ 5) (τ 6) d) 8 < 8 := by
                refine sr_lt.mpr (Classical.byContradiction fun z => h8 ?_)
                have : cn (fun c' => en (σ 1) (σ 2) z1 d c' ≠ 0) 8 = cn (fun _ => True) 8 := cn_congr (fun c hc => ⟨fun _ => trivial, fun _ y => z ⟨c, hc, ?_⟩⟩)
                · rw [this]; exact cn_true
                · rw [en_m h2 hp] at y
                  have y' : τ 2 (8 * pt (τ 1) d 0 + c) = 0 := by rw [hK.1, pt' 0 (by omega)]; exact y
                  refine ⟨by rw [en_m h2' hp']; exact y', ?_⟩
                  have := hA d c hd h2' hp' hc
                  rw [y'] at this
                  exact this.symm
              have hpc := (sr_spec _ _).2.1 hpl'
              generalize hcc : sr (pc0 (τ 1) (τ 2) (τ 5) (τ 6) d) 8 = c at hpl' hpc
              obtain ⟨a, b⟩ := lk_core (F := F) (q := q') (q2 := q2') (C := C') (S1 := T1) (S2 := T2) (S3 := T3) (by omega) hn hJ hd t' h2' hpl' hcc m1 m2 i0 i18
              rw [hK.1] at a
              exact ⟨_, _, q', q2', C', T1, T2, T3, en_Inv hn hJ hd t' h2' hpl' hpc m1 m2 i0 i18 ti', a, b⟩
      · rw [pif_f hf]
        exact ⟨-1, σ, _, _, _, _, _, _, hI', rfl, rfl⟩
    · rw [pif_f ht]
      exact ⟨-1, σ, _, _, _, _, _, _, hI', rfl, rfl⟩
  · rw [bd_e en0, if_pos (show nI 0 = 0 from rfl)]
    by_cases ht : isT (σ 1) (σ 2) 2 x1
    · rw [pif_t ht]
      refine ⟨-1, σ, q1, v9, C, S1, S2, S3, hI', ?_, rfl⟩
      show (if nI 1 = 0 then _ else _) = _
      rw [if_neg nn1, bd_e en0]; rfl
    · rw [pif_f ht]
      exact ⟨-1, σ, _, _, _, _, _, _, hI', rfl, rfl⟩
