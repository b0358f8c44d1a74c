section CF
variable {n F : Nat} {σ τ : St} {d c m i : Nat}
theorem cr_fin (hn : n < 512) (hI : Inv n σ) (hτ : Inw n τ) (hd : d < 18) (t : Tr (Ed (σ 1) (σ 2) z1) 0 d) (h2 : kd (σ 1) d = 2) (h2' : kd (τ 1) d = 2) (hp' : pt (τ 1) d 0 = pt (σ 1) d 0) (hk : ∀ p, p < 288 → DB σ (p / 8) → DB τ (p / 8) ∧ τ 2 p = σ 2 p ∧ sn τ p = sn σ p) (hpl : sr (pc0 (σ 1) (σ 2) (σ 5) (σ 6) d) 8 = c) (hc : c < 8) (m1 : 1 ≤ m) (m2 : m ≤ 999) (i0 : 0 < i) (i18 : i < 18) (ek : kd (τ 1) i ≠ 0) (ei : im (τ 0) i = 1) (e2 : kd (τ 1) i = 2 → pt (τ 1) i 0 ≠ 0) (hL : ∀ j, 0 < j → j < 18 → kd (τ 1) j ≠ 0 → j ≠ i → 0 < lk (τ 1) j) (h7 : V7s τ) (h18 : V18s τ) (h9 : V9 τ) :
    sr (pc0 (τ 1) (τ 2) (τ 5) (τ 6) d) 8 = c ∧ Inv (n + 1) (enS τ (8 * pt (τ 1) d 0 + c) (32 * m + i)) := by
  have hp := tree_pt hI.2.1 t h2
  have hb := (isD_p (Inv_VT1 hI) hd (k := 0) (by omega) hp).1
  have hq : ∀ c, c < 8 → τ 2 (8 * pt (τ 1) d 0 + c) = σ 2 (8 * pt (σ 1) d 0 + c) ∧ sn τ (8 * pt (τ 1) d 0 + c) = sn σ (8 * pt (σ 1) d 0 + c) := fun c hc => by
    have := hk (8 * pt (σ 1) d 0 + c) (by omega) (by rw [show (8 * pt (σ 1) d 0 + c) / 8 = pt (σ 1) d 0 by omega]; exact DBm hd h2 hp)
    rw [hp']; exact this.2
  have hpc : ∀ c, c < 8 → (pc0 (τ 1) (τ 2) (τ 5) (τ 6) d c ↔ pc0 (σ 1) (σ 2) (σ 5) (σ 6) d c) := fun c hc => by
    unfold pc0
    rw [en_m h2' (by rw [hp']; exact hp), en_m h2 hp, ← sn_sdw, ← sn_sdw, (hq c hc).1, (hq c hc).2]
  have hsr : sr (pc0 (τ 1) (τ 2) (τ 5) (τ 6) d) 8 = c := by rw [sr_congr hpc]; exact hpl
  have hpl0 : pc0 (σ 1) (σ 2) (σ 5) (σ 6) d c := by
    have := (sr_spec (pc0 (σ 1) (σ 2) (σ 5) (σ 6) d) 8).2.1 (by omega)
    rw [hpl] at this; exact this
  have h0 : σ 2 (8 * pt (σ 1) d 0 + c) = 0 := by have := hpl0.1; rw [en_m h2 hp] at this; exact this
  have hei : (32 * m + i) % 32 = i := by omega
  have e8 : (8 * pt (τ 1) d 0 + c) / 8 = pt (τ 1) d 0 := by omega
  refine ⟨hsr, by omega, en_Inw (d := d) hτ (by omega) hd h2' (by rw [e8]) (by rw [e8, hp']; exact hp) (by rw [(hq c hc).1]; exact h0) (by rw [(hq c hc).2]; exact hpl0.2) ⟨by omega, by omega, by omega, by omega⟩ (by rw [hei]; exact ek) (by rw [hei]; exact ei) (by rw [hei]; exact e2) (fun z => ?_), ?_⟩
  · obtain ⟨p, p1, p2, p3, p4⟩ := tree_nm hI.2.1 t z
    obtain ⟨x, y, -⟩ := hk p p1 p2
    exact ⟨p, p1, x, by rw [y]; exact p3, by rw [y]; exact p4⟩
  · exact en_Ins (by rw [hei]; exact hL) h7 h18 h9
theorem cr_file {q q2 : AR} {C : Nat → Nat} {S1 S2 S3 : Nat → Prop} (hF : 36 < F) (hn : n < 512) (hI : Inv n σ) (hd : d < 18) (t : Tr (Ed (σ 1) (σ 2) z1) 0 d) (h2 : kd (σ 1) d = 2) (m1 : 1 ≤ m) (m2 : m ≤ 999) (hr : rmN σ d 0) :
    ∃ r ρ, Inv (n + 1) ρ ∧ s_V_create_59 F (zz z1) (nI d) (nI m) 0 (zz (σ 0)) (zz (σ 1)) (zz (σ 2)) q (zz (σ 3)) (zz (σ 4)) (zz (σ 5)) (zz (σ 6)) q2 (zz (σ 7)) (zz (σ 8)) (zz (σ 9)) (nI (σ 10 0)) = OutV r ρ q q2 ∧
    s_R_create_57 F (nI d) (nI m) 0 (bz (yb σ)) (zz (σ 8)) (zz (rM (σ 0) (σ 1) (σ 2))) (zz (rM (σ 3) (σ 4) (σ 5))) (zz (σ 6)) (bz (fun i => σ 9 i = 2)) (zz (owd σ)) (zz C) (bz S1) (bz S2) (bz S3) (nI (σ 10 0)) = OutR r ρ C S1 S2 S3 := by
  have hp := tree_pt hI.2.1 t h2
  have hM : ∀ m, m < 48 → σ 0 m ≤ 1 := fun m hm => ((Inw_V5 hI.2.1).1 m hm).1
  obtain ⟨i, i18, hfr, hfi⟩ : ∃ i, i < 18 ∧ fre (σ 0) (σ 1) i ∧ fi (σ 0) (σ 1) (d / 6) = nI i := by
    rcases fi_or (M := σ 0) (T := σ 1) (g := d / 6) (by omega) with ⟨-, b'⟩ | z
    · obtain ⟨j, hj, z⟩ := hr.2.1; exact absurd z (b' j hj)
    · exact z
  have i0 : 0 < i := Nat.pos_of_ne_zero fun z => by have := hfr.2; rw [z, hI.2.1.2.2.2.1.1.1] at this; omega
  have hdi : d ≠ i := fun z => by have := hfr.2; rw [← z] at this; omega
  obtain ⟨w1, w2, w3, w4⟩ := nw_Inw (κ := 1) hI.2.1 i18 hfr.2 hfr.1 (Or.inl rfl)
  obtain ⟨u1, u2, u3, u4⟩ := w4 hI.2.2
  have hc := hr.1
  obtain ⟨g1, g2⟩ := cr_fin (c := sr (pc0 (σ 1) (σ 2) (σ 5) (σ 6) d) 8) (τ := nwS σ i 1) hn hI w1 hd t h2 (by rw [nw_kd0 hdi]; exact h2) (nw_pt (by omega)) (fun p _ hD => ⟨(w2 _).mpr hD, rfl, rfl⟩) rfl hc m1 m2 i0 i18 (by rw [nw_kd1]; decide) nw_im1 (by rw [nw_kd1]; intro z; omega) u4 u1 u2 u3
  obtain ⟨e1, e2⟩ := cr_150 (F := F) (q := q) (q2 := q2) (C := C) (S1 := S1) (S2 := S2) (S3 := S3) hF w1 (by omega) hd (by rw [nw_kd0 hdi]; exact h2) (by rw [nw_pt (by omega)]; exact hp) hc g1 m1 m2 i0 i18
  refine ⟨nI i, _, g2, ?_, ?_⟩
  · have e3 : s_S_freeInode F (zz (σ 0)) (zz (σ 1)) (nI (d / 6)) = some (fi (σ 0) (σ 1) (d / 6)) := cf_freeInode (by omega) (Inv_VT1 hI) hM (by omega)
    unfold s_V_create_59 s_V_create_81 s_V_create_111
    rw [if_pos rfl, pk_div (by omega) (by decide) (by decide), bd_e e3, hfi, bd_e (cf_setInodeMark i18), if_pos rfl, bd_e (cf_setKind i18), if_pos rfl]
    exact e1
  · have hz : ∀ f, 1 ≤ f → f < 5 → nwS σ i 1 1 (5 * i + f) = 0 := fun f h1 h5 => by
      have hx := (hI.2.1.1.1 i i18).2.2.1 hfr.2
      have e : nwS σ i 1 1 (5 * i + f) = σ 1 (5 * i + f) := up_n (by omega)
      rw [e]
      by_cases e1 : f = 1
      · rw [e1]; exact hx.1
      · have := hx.2 (f - 2) (by omega)
        rw [show 5 * i + f = 5 * i + 2 + (f - 2) by omega]; exact this
    unfold s_R_create_57 s_R_create_107
    rw [bd_e (ro_R hF hI hd h2 hp (Or.inl rfl)), pif_t hr, if_neg nn1, bd_e (inF hF hI hd (Or.inl rfl)), show gNw σ d 0 = d / 6 from if_pos rfl, hfi, bd_e (cf_markOfInode i18), ga_e _ rfl (by omega) (by decide), bd_e (cf_at i18 (by omega)), if_pos rfl, ga_e _ rfl (by omega) (by decide), nI_clamp (by omega), nI_clamp (by omega), zz_up, zz_up, up_im i18, up_t i18 (by omega), Nat.add_zero]
    have e4 := cr_wipe (F := F) (C := C) (S1 := S1) (S2 := S2) (S3 := S3) (x1 := nI d) (x2 := nI m) (x3 := 0) (Y := bz (yb σ)) (D := zz (σ 8)) (W1 := zz (rM (σ 3) (σ 4) (σ 5))) (R := bz (fun i => σ 9 i = 2)) (O := zz (owd σ)) (mv := nI (σ 10 0)) (A := nwS σ i 1 0) (T := nwS σ i 1 1) (W := σ 2) (K := σ 6) i18 hz 4 1 F rfl (by omega) (by omega)
    rw [if_pos rfl] at e4
    refine Eq.trans e4 ?_
    rw [w3] at e2
    exact e2
end CF
