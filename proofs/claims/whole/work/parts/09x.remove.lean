-- remove
def fnd (σ : St) (x1 x2 : Int32) (d m : Nat) : Prop := d < 18 ∧ x1 = nI d ∧ Tr (Ed (σ 1) (σ 2) z1) 0 d ∧ kd (σ 1) d = 2 ∧ 1 ≤ m ∧ m ≤ 999 ∧ x2 = nI m ∧ sr (fun c => en (σ 1) (σ 2) z1 d c / 32 = m) 8 < 8
theorem cf_lookupR {n F : Nat} {σ : St} {dsk fresh : Nat → Int32} {x1 x2 : Int32} (S1 : Nat → Prop) (hF : 36 < F) (hI : Inv n σ) : ∃ S', (∀ d m, fnd σ x1 x2 d m → s_R_lookup F (zz (rM (σ 0) (σ 1) (σ 2))) dsk fresh x1 x2 (bz S1) = some (nI (σ 2 (8 * pt (σ 1) d 0 + sr (fun c => en (σ 1) (σ 2) z1 d c / 32 = m) 8) % 32), bz S')) ∧ ((∀ d m, ¬ fnd σ x1 x2 d m) → s_R_lookup F (zz (rM (σ 0) (σ 1) (σ 2))) dsk fresh x1 x2 (bz S1) = some (-1, bz S')) := by
  have hT := Inv_VT1 hI
  have hE := VEm hI.2.1
  obtain ⟨S', eS⟩ := cf_holds (F := F) (A := σ 0) (dsk := dsk) (fresh := fresh) (kk := 2) S1 x1 (by omega) hT hE (by omega)
  rcases isName_or x2 with ⟨m, m1, m2, rfl⟩ | ⟨en0, nn⟩
  · refine ⟨S', fun d m' h => ?_, fun h => ?_⟩
    · obtain ⟨hd, rfl, t, h2, -, m3, e, hc⟩ := h
      have : m = m' := by
        have := congrArg Int32.toInt e
        rw [nI_toInt (by omega), nI_toInt (by omega)] at this
        omega
      subst this
      have ht : isT (σ 1) (σ 2) 2 (nI d) := ⟨d, hd, rfl, t, h2⟩
      have hp := tree_pt hI.2.1 t h2
      have hEd : ∀ c, c < 8 → en (σ 1) (σ 2) z1 d c < 2 ^ 31 := fun c hc => (hE d c hd hc).1
      have hv := (hE d _ hd hc).1
      unfold s_R_lookup
      rw [isName_same, bd_e (cf_isName_t m1 m2), if_neg (show ¬ nI 1 = 0 by decide), bd_e eS]
      show (if pif _ (nI 1) (nI 0) = 0 then _ else _) = _
      rw [if_neg (fun z => pif01.mp z ht), bd_e (cf_find (by omega) hT hd h2 hp (by omega) hEd), ans_t hc, if_pos (nI_pos' (by omega)), bd_e (cf_at hd (by omega)), rd_t hd (by omega), rd_w (isD_p hT hd (by omega) hp) hc]
      rw [en_m h2 hp] at hv
      show some (nI (σ 2 _) - nI (σ 2 _) / nI 32 * nI 32, _) = _
      rw [pk_rem hv (by decide) (by decide)]
    · unfold s_R_lookup
      rw [isName_same, bd_e (cf_isName_t m1 m2), if_neg (show ¬ nI 1 = 0 by decide), bd_e eS]
      show (if pif _ (nI 1) (nI 0) = 0 then _ else _) = _
      by_cases ht : isT (σ 1) (σ 2) 2 x1
      · rw [if_neg (fun z => pif01.mp z ht)]
        obtain ⟨d, hd, rfl, t, h2⟩ := ht
        have hp := tree_pt hI.2.1 t h2
        have hEd : ∀ c, c < 8 → en (σ 1) (σ 2) z1 d c < 2 ^ 31 := fun c hc => (hE d c hd hc).1
        rw [bd_e (cf_find (by omega) hT hd h2 hp (by omega) hEd)]
        by_cases hc : sr (fun c => en (σ 1) (σ 2) z1 d c / 32 = m) 8 < 8
        · exact absurd ⟨hd, rfl, t, h2, m1, m2, rfl, hc⟩ (h d m)
        · rw [ans_f hc, if_neg (show ¬ (0 : Int32) ≤ -1 by decide)]
      · rw [if_pos (pif01.mpr ht)]
  · refine ⟨S1, fun d m h => ?_, fun h => ?_⟩
    · obtain ⟨-, -, -, -, m1, m2, e, -⟩ := h
      rw [e, cf_isName_t m1 m2] at en0
      exact absurd (congrArg Int32.toInt (Option.some.inj en0)) (by decide)
    · unfold s_R_lookup
      rw [isName_same, bd_e en0, if_pos (show nI 0 = 0 from rfl)]
theorem st_remove (F : Nat) (hF : 300 < F) : St_remove F Rl0 := by
  intro n v0 v1 v2 v3 v4 v5 v6 v7 v8 v9 v10 v11 v12 v13 r0 r1 r2 r3 r4 r5 r6 r7 r8 r9 r10 r11 x1 x2 hn hR
  obtain ⟨σ, hI, h0, h1, h2, h3, h4, h5, h6, h7, h8, h9, h10, h11, h12, h13, h14, h15, h16, h17, h18, ⟨C, h19⟩, ⟨S1, h20⟩, hrest⟩ := hR
  subst h0 h1 h2 h3 h5 h6 h7 h8 h9 h10 h12 h13 h14 h15 h16 h17 h18 h19 h20
  have hT := Inv_VT1 hI
  have hE := VEm hI.2.1
  obtain ⟨q', eq⟩ := cf_isTree2 (F := F) v4 x1 (by omega) hT hE
  obtain ⟨S', eR1, eR0⟩ := cf_lookupR (F := F) (dsk := zz (rM (σ 3) (σ 4) (σ 5))) (fresh := zz (σ 6)) (x1 := x1) (x2 := x2) S1 (by omega) hI
  have hI' := Inv_s hI hn
  by_cases hf : ∃ d m, fnd σ x1 x2 d m
  · obtain ⟨d, m, hfm⟩ := hf
    have eR := eR1 d m hfm
    obtain ⟨hd, rfl, t, h2, m1, m2, rfl, hc⟩ := hfm
    have ht : isT (σ 1) (σ 2) 2 (nI d) := ⟨d, hd, rfl, t, h2⟩
    have hp := tree_pt hI.2.1 t h2
    have hD := isD_p hT hd (k := 0) (by omega) hp
    have hEd : ∀ c, c < 8 → en (σ 1) (σ 2) z1 d c < 2 ^ 31 := fun c hc => (hE d c hd hc).1
    have eF := cf_find (F := F) (A := σ 0) (T := σ 1) (W := σ 2) (m := m) (by omega) hT hd h2 hp (by omega) hEd
    have eC := cf_cellOfName (F := F) (m := m) (by omega) hT z1_le hd m1 m2 hEd
    have hcs : en (σ 1) (σ 2) z1 d (sr (fun c => en (σ 1) (σ 2) z1 d c / 32 = m) 8) / 32 = m := (sr_spec _ _).2.1 hc
    rw [ans_t hc] at eF eC
    generalize sr (fun c => en (σ 1) (σ 2) z1 d c / 32 = m) 8 = c at *
    rw [en_m h2 hp] at hcs
    have h0 : σ 2 (8 * pt (σ 1) d 0 + c) ≠ 0 := by intro z; rw [z] at hcs; omega
    obtain ⟨ok1, ekd, eim, epp, -⟩ := Inw_V11 hI.2.1 (8 * pt (σ 1) d 0 + c) (by have := hD.1; omega) (by rw [show (8 * pt (σ 1) d 0 + c) / 8 = pt (σ 1) d 0 by omega]; exact DBm hd h2 hp) h0
    have i18 := ok1.2.2.2
    have o2 := ok1.2.1
    have hEi : ∀ c', c' < 8 → en (σ 1) (σ 2) z1 (σ 2 (8 * pt (σ 1) d 0 + c) % 32) c' < 2 ^ 31 := fun c hc => (hE _ c i18 hc).1
    have hcn := cn_le (P := fun c' => en (σ 1) (σ 2) z1 (σ 2 (8 * pt (σ 1) d 0 + c) % 32) c' ≠ 0) (n := 8)
    have eV0 : ∀ K : Int32 → Option (Int32 × AR × AR × AR × AR × AR × AR × AR), bd (s_S_entry (zz (σ 1)) (zz (σ 2)) (zz z1) (nI d) (nI c)) (fun r33 => bd (s_S_entryCount F (zz (σ 1)) (zz (σ 2)) (zz z1) (r33 - r33 / nI 32 * nI 32)) K) = K (nI (cn (fun c' => en (σ 1) (σ 2) z1 (σ 2 (8 * pt (σ 1) d 0 + c) % 32) c' ≠ 0) 8)) := by
      intro K
      rw [bd_e (cf_entry hT z1_le hd hc), en_m h2 hp, pk_rem (by omega) (by decide) (by decide), bd_e (cf_entryCount (by omega) hT z1_le i18 hEi)]
    by_cases hb : cn (fun c' => en (σ 1) (σ 2) z1 (σ 2 (8 * pt (σ 1) d 0 + c) % 32) c' ≠ 0) 8 = 0
    · have hEE : kd (σ 1) (σ 2 (8 * pt (σ 1) d 0 + c) % 32) = 2 → (∀ c', c' < 8 → σ 2 (8 * pt (σ 1) (σ 2 (8 * pt (σ 1) d 0 + c) % 32) 0 + c') = 0) ∨ ∃ p, p ≠ 8 * pt (σ 1) d 0 + c ∧ p < 288 ∧ DB σ (p / 8) ∧ nmM σ (σ 2 (8 * pt (σ 1) d 0 + c) % 32) p := by
        intro k2
        left
        intro c' hc'
        have := cn_zero.mp hb c' hc'
        rw [en_m k2 (epp k2)] at this
        omega
      obtain ⟨gI, g1⟩ := cf_takeEntryAway (F := F) (by omega) hI.1 hI.2.1 hI.2.2 hd h2 hp hc h0 hEE
      obtain ⟨C', g2⟩ := cf_leave (F := F) (C := C) hF hI.1 hI.2.1 hI.2.2 hd h2 hp hc h0 hEE
      generalize hτ : rmS σ (8 * pt (σ 1) d 0 + c) (if sn σ (8 * pt (σ 1) d 0 + c) = 0 then 1 else 0) = τ at gI g1 g2
      refine ⟨nI (σ 2 (8 * pt (σ 1) d 0 + c) % 32), zz (GB τ 0), zz (GB τ 1), zz (τ 2), q', zz (τ 7), zz (GB τ 8), zz (GB τ 9), bz (yb τ), zz (GB τ 8), zz (rM (GB τ 0) (GB τ 1) (τ 2)), bz (fun j => GB τ 9 j = 2), zz (owd (GB τ)), zz C', bz S', ?_, ?_, GB τ, Inv_s gI hn, rfl, rfl, rfl, rfl, ?_, ?_, ?_, ?_, rfl, rfl, rfl, ?_, rfl, ?_, ?_, rfl, rfl, rfl, rfl, ⟨C', rfl⟩, ⟨S', rfl⟩, ?_⟩
      · unfold s_V_remove
        rw [bd_e eq]
        show (if pif _ (nI 1) (nI 0) = 0 then _ else _) = _
        rw [if_neg (fun z => pif01.mp z ht), bd_e eC, if_neg (nI_m1 (by omega)), bd_e (cf_entry hT z1_le hd hc), en_m h2 hp, pk_rem (by omega) (by decide) (by decide), bd_e (cf_entryCount (by omega) hT z1_le i18 hEi), hb, if_pos (show nI 0 ≤ 0 by decide), bd_e g1]
      · unfold s_R_remove s_R_remove_38
        rw [bd_e eR]
        show (if 0 ≤ nI (σ 2 _ % 32) then _ else _) = _
        rw [if_pos (nI_pos' (by omega)), bd_e (cf_at i18 (by omega)), rd_t i18 (by omega)]
        have tail : bd (s_R_find F (zz (rM (σ 0) (σ 1) (σ 2))) (nI d) (nI m)) (fun r41 => bd (s_R_leave F (zz (rM (σ 3) (σ 4) (σ 5))) (zz (σ 6)) (nI d) r41 (bz (yb σ)) (zz (σ 8)) (zz (rM (σ 0) (σ 1) (σ 2))) (bz (fun i => σ 9 i = 2)) (zz (owd σ)) (zz C)) (fun ⟨young_50, dropped_50, mem_50, released_50, owed_50, counted_50⟩ => some (nI (σ 2 (8 * pt (σ 1) d 0 + c) % 32), young_50, dropped_50, mem_50, released_50, owed_50, counted_50, bz S'))) = some (nI (σ 2 (8 * pt (σ 1) d 0 + c) % 32), bz (yb τ), zz (GB τ 8), zz (rM (GB τ 0) (GB τ 1) (τ 2)), bz (fun j => GB τ 9 j = 2), zz (owd (GB τ)), zz C', bz S') := by
          rw [bd_e eF, bd_e g2]
        show (if nI (σ 1 (5 * (σ 2 (8 * pt (σ 1) d 0 + c) % 32) + 0)) = nI 2 then _ else _) = _
        by_cases k2 : kd (σ 1) (σ 2 (8 * pt (σ 1) d 0 + c) % 32) = 2
        · rw [if_pos (show nI (σ 1 (5 * (σ 2 (8 * pt (σ 1) d 0 + c) % 32) + 0)) = nI 2 from congrArg nI k2), bd_e (cf_entries (by omega) hT i18 k2 (epp k2) hEi), hb, if_pos (show nI 0 ≤ 0 by decide)]
          exact tail
        · have kb := (hT _ i18).1
          rw [if_neg (show ¬ nI (σ 1 (5 * (σ 2 (8 * pt (σ 1) d 0 + c) % 32) + 0)) = nI 2 from fun z => k2 ((nI32 (by show kd (σ 1) _ < _; omega) (by decide)).mp z))]
          exact tail
      all_goals first | exact h4 | (rw [← hτ]; rfl) | (rw [← hτ]; exact h4) | (rw [← hτ]; exact h11) | (rw [← hτ]; exact hrest)
    · have hb1 : ¬ nI (cn (fun c' => en (σ 1) (σ 2) z1 (σ 2 (8 * pt (σ 1) d 0 + c) % 32) c' ≠ 0) 8) ≤ 0 := by
        intro z
        have := Int32.le_iff_toInt_le.mp z
        rw [nI_toInt (by omega)] at this
        have e0 : (0 : Int32).toInt = 0 := by decide
        omega
      refine ⟨-4, zz (σ 0), zz (σ 1), zz (σ 2), q', zz (σ 7), zz (σ 8), zz (σ 9), bz (yb σ), zz (σ 8), zz (rM (σ 0) (σ 1) (σ 2)), bz (fun j => σ 9 j = 2), zz (owd σ), zz C, bz S', ?_, ?_, σ, hI', rfl, rfl, rfl, rfl, h4, rfl, rfl, rfl, rfl, rfl, rfl, h11, rfl, rfl, rfl, rfl, rfl, rfl, rfl, ⟨C, rfl⟩, ⟨S', rfl⟩, hrest⟩
      · unfold s_V_remove
        rw [bd_e eq]
        show (if pif _ (nI 1) (nI 0) = 0 then _ else _) = _
        rw [if_neg (fun z => pif01.mp z ht), bd_e eC, if_neg (nI_m1 (by omega)), bd_e (cf_entry hT z1_le hd hc), en_m h2 hp, pk_rem (by omega) (by decide) (by decide), bd_e (cf_entryCount (by omega) hT z1_le i18 hEi), if_neg hb1]
      · have k2 : kd (σ 1) (σ 2 (8 * pt (σ 1) d 0 + c) % 32) = 2 := by
          refine Classical.byContradiction fun z => hb ?_
          refine cn_zero.mpr (fun c' hc' q => q ?_)
          unfold en; rw [if_neg (fun y => z y.1)]
        unfold s_R_remove
        rw [bd_e eR]
        show (if 0 ≤ nI (σ 2 _ % 32) then _ else _) = _
        rw [if_pos (nI_pos' (by omega)), bd_e (cf_at i18 (by omega)), rd_t i18 (by omega), if_pos (show nI (σ 1 (5 * (σ 2 (8 * pt (σ 1) d 0 + c) % 32) + 0)) = nI 2 from congrArg nI k2), bd_e (cf_entries (by omega) hT i18 k2 (epp k2) hEi), if_neg hb1]
  · have eR := eR0 (fun d m z => hf ⟨d, m, z⟩)
    refine ⟨-1, zz (σ 0), zz (σ 1), zz (σ 2), q', zz (σ 7), zz (σ 8), zz (σ 9), bz (yb σ), zz (σ 8), zz (rM (σ 0) (σ 1) (σ 2)), bz (fun j => σ 9 j = 2), zz (owd σ), zz C, bz S', ?_, ?_, σ, hI', rfl, rfl, rfl, rfl, h4, rfl, rfl, rfl, rfl, rfl, rfl, h11, rfl, rfl, rfl, rfl, rfl, rfl, rfl, ⟨C, rfl⟩, ⟨S', rfl⟩, hrest⟩
    · unfold s_V_remove
      rw [bd_e eq]
      show (if pif _ (nI 1) (nI 0) = 0 then _ else _) = _
      by_cases ht : isT (σ 1) (σ 2) 2 x1
      · rw [if_neg (fun z => pif01.mp z ht)]
        obtain ⟨d, hd, rfl, t, h2⟩ := ht
        rcases isName_or x2 with ⟨m, m1, m2, rfl⟩ | ⟨en0, nn⟩
        · have hEd : ∀ c, c < 8 → en (σ 1) (σ 2) z1 d c < 2 ^ 31 := fun c hc => (hE d c hd hc).1
          rw [bd_e (cf_cellOfName (by omega) hT z1_le hd m1 m2 hEd), ans_f (fun hc => hf ⟨d, m, hd, rfl, t, h2, m1, m2, rfl, hc⟩), if_pos rfl]
        · rw [bd_e (cf_cellOfName_n en0), if_pos rfl]
      · rw [if_pos (pif01.mpr ht)]
    · unfold s_R_remove
      rw [bd_e eR]
      show (if (0 : Int32) ≤ -1 then _ else _) = _
      rw [if_neg (show ¬ (0 : Int32) ≤ -1 by decide)]
