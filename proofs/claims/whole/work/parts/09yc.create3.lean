section CG
variable {n F : Nat} {σ τ : St} {d c m i : Nat}
theorem cr_dir {q q2 : AR} {C : Nat → Nat} {S1 S2 S3 : Nat → Prop} (hF : 36 < F) (hn : n < 512) (hI : Inv n σ) (hd : d < 18) (t : Tr (Ed (σ 1) (σ 2) z1) 0 d) (h2 : kd (σ 1) d = 2) (m1 : 1 ≤ m) (m2 : m ≤ 999) (hr : rmN σ d 1) :
    ∃ r ρ, Inv (n + 1) ρ ∧ s_V_create_59 F (zz z1) (nI d) (nI m) 1 (zz (σ 0)) (zz (σ 1)) (zz (σ 2)) q (zz (σ 3)) (zz (σ 4)) (zz (σ 5)) (zz (σ 6)) q2 (zz (σ 7)) (zz (σ 8)) (zz (σ 9)) (nI (σ 10 0)) = OutV r ρ q q2 ∧
    s_R_create_57 F (nI d) (nI m) 1 (bz (yb σ)) (zz (σ 8)) (zz (rM (σ 0) (σ 1) (σ 2))) (zz (rM (σ 3) (σ 4) (σ 5))) (zz (σ 6)) (bz (fun i => σ 9 i = 2)) (zz (owd σ)) (zz C) (bz S1) (bz S2) (bz S3) (nI (σ 10 0)) = OutR r ρ C S1 S2 S3 := by
  have n10 : ¬ (1 : Int32) = 0 := by decide
  have hp := tree_pt hI.2.1 t h2
  have hM : ∀ m, m < 48 → σ 0 m ≤ 1 := fun m hm => ((Inw_V5 hI.2.1).1 m hm).1
  have hgl : rg (fg (σ 0) (σ 1) 0) (fg (σ 0) (σ 1) 1) (fg (σ 0) (σ 1) 2) < 3 := rg_lt
  obtain ⟨i, i18, hfr, hfi⟩ : ∃ i, i < 18 ∧ fre (σ 0) (σ 1) i ∧ fi (σ 0) (σ 1) (rg (fg (σ 0) (σ 1) 0) (fg (σ 0) (σ 1) 1) (fg (σ 0) (σ 1) 2)) = nI i := by
    rcases fi_or (M := σ 0) (T := σ 1) hgl with ⟨-, b'⟩ | z
    · obtain ⟨j, hj, z⟩ := hr.2.1; exact absurd z (b' j hj)
    · exact z
  have i0 : 0 < i := Nat.pos_of_ne_zero fun z => by have := hfr.2; rw [z, hI.2.1.2.2.2.1.1.1] at this; omega
  have hdi : d ≠ i := fun z => by have := hfr.2; rw [← z] at this; omega
  obtain ⟨w1, w2, w3, w4⟩ := nw_Inw (κ := 2) hI.2.1 i18 hfr.2 hfr.1 (Or.inr rfl)
  obtain ⟨u1, u2, u3, u4⟩ := w4 hI.2.2
  have hM' : ∀ m, m < 48 → nwS σ i 2 0 m ≤ 1 := fun m hm => ((Inw_V5 w1).1 m hm).1
  have hx := (hI.2.1.1.1 i i18).2.2.1 hfr.2
  have p0 : pt (nwS σ i 2 1) i 0 = 0 := by rw [nw_pt (by omega)]; exact hx.2 0 (by omega)
  obtain ⟨b, bD, bm0, hfb⟩ : ∃ b, isD b ∧ bm (nwS σ i 2 0) b = 0 ∧ fb (nwS σ i 2 0) (i / 6) = nI b := by
    rcases fb_or (M := nwS σ i 2 0) (g := i / 6) (by omega) with ⟨-, b'⟩ | z
    · obtain ⟨j, hj, z⟩ := hr.2.2.resolve_left n10
      refine absurd ⟨z.1, ?_⟩ (b' j hj)
      rw [nw_bm ⟨hj, z.1⟩]; exact z.2
    · exact z
  have b0 : b ≠ 0 := by have := bD.2; intro z; rw [z] at this; omega
  have hb36 := bD.1
  obtain ⟨x1, x2, x3, x4⟩ := tk_Inw w1 i18 (show 0 < 3 by omega) p0 bD bm0 (by rw [nw_kd1]; decide) (fun _ => rfl)
  have hc := hr.1
  have k2 : kd (tkS (nwS σ i 2) i 0 b 1) d = 2 := by rw [tk_kd (by omega), nw_kd0 hdi]; exact h2
  have p2 : pt (tkS (nwS σ i 2) i 0 b 1) d 0 = pt (σ 1) d 0 := by rw [tk_pt0 (by omega) (by omega) (fun z => hdi z.1), nw_pt (by omega)]
  have im1 : im (tkS (nwS σ i 2) i 0 b 0) i = 1 := by
    show up _ _ _ _ = 1
    rw [up_n (by have := bD.2; omega)]; exact nw_im1
  obtain ⟨g1, g2⟩ := cr_fin (c := sr (pc0 (σ 1) (σ 2) (σ 5) (σ 6) d) 8) (τ := tkS (nwS σ i 2) i 0 b) hn hI x1 hd t h2 k2 p2 (fun p _ hD => (tk_nm w1 i18 (by omega) p0 bD bm0 ((w2 _).mpr hD)).2) rfl hc m1 m2 i0 i18 (by rw [tk_kd (by omega), nw_kd1]; decide) im1 (fun _ => by rw [tk_pt1]; exact b0) (fun j y1 y2 y3 y4 => by rw [tk_kd (by omega)] at y3; rw [tk_lk (by omega)]; exact u4 j y1 y2 y3 y4) u1 u2 u3
  obtain ⟨e1, e2⟩ := cr_150 (F := F) (q := q) (q2 := q2) (C := C) (S1 := S1) (S2 := S2) (S3 := S3) hF x1 (by omega) hd k2 (by rw [p2]; exact hp) hc g1 m1 m2 i0 i18
  refine ⟨nI i, _, g2, ?_, ?_⟩
  · have e3 : s_S_freeInode F (zz (σ 0)) (zz (σ 1)) (nI (rg (fg (σ 0) (σ 1) 0) (fg (σ 0) (σ 1) 1) (fg (σ 0) (σ 1) 2))) = some (fi (σ 0) (σ 1) (rg (fg (σ 0) (σ 1) 0) (fg (σ 0) (σ 1) 1) (fg (σ 0) (σ 1) 2))) := cf_freeInode (by omega) (Inv_VT1 hI) hM hgl
    have e5 : s_S_freeBlock F (zz (up (σ 0) (i / 6 * 16 + i % 6) 1)) (nI (i / 6)) = some (fb (nwS σ i 2 0) (i / 6)) := cf_freeBlock (by omega) hM' (by omega)
    unfold s_V_create_59 s_V_create_81 s_V_create_111
    rw [if_neg n10, bd_e (cf_roomiest (by omega) (Inv_VT1 hI) hM), bd_e e3, hfi, bd_e (cf_setInodeMark i18), if_neg n10, bd_e (cf_setKind i18), if_neg n10, pk_div (by omega) (by decide) (by decide), bd_e e5, hfb, bd_e (cf_takeBlock (by omega) bD)]
    show bd (s_S_setPointer (nI i) (nI 0) (nI b) (zz (up (σ 1) (5 * i) 2))) _ = _
    rw [bd_e (cf_setPointer i18 (by omega))]
    exact e1
  · have hz : ∀ f, 1 ≤ f → f < 5 → nwS σ i 2 1 (5 * i + f) = 0 := fun f h1 h5 => by
      have e : nwS σ i 2 1 (5 * i + f) = σ 1 (5 * i + f) := up_n (by omega)
      rw [e]
      by_cases e1 : f = 1
      · rw [e1]; exact hx.1
      · have := hx.2 (f - 2) (by omega)
        rw [show 5 * i + f = 5 * i + 2 + (f - 2) by omega]; exact this
    unfold s_R_create_57 s_R_create_107
    rw [bd_e (ro_R hF hI hd h2 hp (Or.inr rfl)), pif_t hr, if_neg nn1, bd_e (inF hF hI hd (Or.inr rfl)), show gNw σ d 1 = rg (fg (σ 0) (σ 1) 0) (fg (σ 0) (σ 1) 1) (fg (σ 0) (σ 1) 2) from if_neg n10, hfi, bd_e (cf_markOfInode i18), ga_e _ rfl (by omega) (by decide), bd_e (cf_at i18 (by omega)), if_neg n10, ga_e _ rfl (by omega) (by decide), nI_clamp (by omega), nI_clamp (by omega), zz_up, zz_up, up_im i18, up_t i18 (by omega), Nat.add_zero]
    have e4 := cr_wipe (F := F) (C := C) (S1 := S1) (S2 := S2) (S3 := S3) (x1 := nI d) (x2 := nI m) (x3 := 1) (Y := bz (yb σ)) (D := zz (σ 8)) (W1 := zz (rM (σ 3) (σ 4) (σ 5))) (R := bz (fun i => σ 9 i = 2)) (O := zz (owd σ)) (mv := nI (σ 10 0)) (A := nwS σ i 2 0) (T := nwS σ i 2 1) (W := σ 2) (K := σ 6) i18 hz 4 1 F rfl (by omega) (by omega)
    rw [if_neg n10, pk_div (by omega) (by decide) (by decide), bd_e (cf_blockFrom hF hM' (show i / 6 < 3 by omega)), hfb, bd_e (cf_take (by omega) bD)] at e4
    refine Eq.trans e4 ?_
    show bd (s_R_at (nI i) (nI 2)) _ = _
    rw [bd_e (cf_at i18 (by omega)), ga_e _ rfl (by omega) (by decide), nI_clamp (by omega), zz_up, up_t i18 (by omega)]
    rw [x3, w3, x4] at e2
    exact e2
end CG
