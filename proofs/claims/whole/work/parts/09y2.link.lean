-- what SYNC is taken to do; link
noncomputable abbrev OutV (r : Int32) (σ : St) (q q2 : AR) : Option (Int32 × AR × AR × AR × AR × AR × AR × AR × AR × AR × AR × AR × AR × Int32) := some (r, zz (σ 0), zz (σ 1), zz (σ 2), q, zz (σ 3), zz (σ 4), zz (σ 5), zz (σ 6), q2, zz (σ 7), zz (σ 8), zz (σ 9), nI (σ 10 0))
noncomputable abbrev OutW (r : Int32) (σ : St) (q q2 : AR) : Option (Int32 × AR × AR × AR × AR × AR × AR × AR × AR × AR × AR × AR × Int32) := some (r, zz (σ 0), zz (σ 1), q, zz (σ 3), zz (σ 4), zz (σ 5), zz (σ 6), q2, zz (σ 7), zz (σ 8), zz (σ 9), nI (σ 10 0))
noncomputable abbrev OutR (r : Int32) (σ : St) (C : Nat → Nat) (S1 S2 S3 : Nat → Prop) : Option (Int32 × AR × AR × AR × AR × AR × AR × AR × AR × AR × AR × AR × Int32) := some (r, bz (yb σ), zz (σ 8), zz (rM (σ 0) (σ 1) (σ 2)), zz (rM (σ 3) (σ 4) (σ 5)), zz (σ 6), bz (fun i => σ 9 i = 2), zz (owd σ), zz C, bz S1, bz S2, bz S3, nI (σ 10 0))
def Kp (σ σ' : St) : Prop := σ' 2 = σ 2 ∧ ∀ i, i < 18 → (kd (σ' 1) i = kd (σ 1) i ∧ ∀ k, k < 3 → pt (σ' 1) i k = pt (σ 1) i k) ∨ kd (σ' 1) i = 0
def Alk (σ : St) : Prop := ∀ d c, d < 18 → kd (σ 1) d = 2 → pt (σ 1) d 0 ≠ 0 → c < 8 → σ 2 (8 * pt (σ 1) d 0 + c) = sn σ (8 * pt (σ 1) d 0 + c)
def SYN (F : Nat) : Prop := ∀ (n : Nat) (σ : St) (q q2 : AR) (C : Nat → Nat) (S1 S2 S3 : Nat → Prop), Inv n σ → ∃ (r : Int32) (σ' : St) (q' q2' : AR) (C' : Nat → Nat) (S1' S2' S3' : Nat → Prop), Inv n σ' ∧ Kp σ σ' ∧ Alk σ' ∧ s_V_makeAlike F (zz (σ 2)) (zz z1) (zz (σ 0)) (zz (σ 1)) q (zz (σ 3)) (zz (σ 4)) (zz (σ 5)) (zz (σ 6)) q2 (zz (σ 7)) (zz (σ 8)) (zz (σ 9)) (nI (σ 10 0)) = OutW r σ' q' q2' ∧ s_R_sync F (bz (yb σ)) (zz (σ 8)) (zz (rM (σ 0) (σ 1) (σ 2))) (zz (rM (σ 3) (σ 4) (σ 5))) (zz (σ 6)) (bz (fun i => σ 9 i = 2)) (zz (owd σ)) (zz C) (bz S1) (bz S2) (bz S3) (nI (σ 10 0)) = OutR r σ' C' S1' S2' S3'
section LK
variable {n F : Nat} {σ σ' : St}
-- the tree of memory stays
theorem Kp_tree (hI' : Inw n σ') (hI : Inw n σ) (hK : Kp σ σ') {i : Nat} (ht : Tr (Ed (σ 1) (σ 2) z1) 0 i) : i < 18 ∧ Tr (Ed (σ' 1) (σ' 2) z1) 0 i ∧ kd (σ' 1) i = kd (σ 1) i ∧ (∀ k, k < 3 → pt (σ' 1) i k = pt (σ 1) i k) ∧ (i ≠ 0 → im (σ' 0) i = 1 ∧ kd (σ 1) i ≠ 0) := by
  have hV := VEm hI
  refine Tr_ind ht (S := fun i => i < 18 ∧ Tr (Ed (σ' 1) (σ' 2) z1) 0 i ∧ kd (σ' 1) i = kd (σ 1) i ∧ (∀ k, k < 3 → pt (σ' 1) i k = pt (σ 1) i k) ∧ (i ≠ 0 → im (σ' 0) i = 1 ∧ kd (σ 1) i ≠ 0)) ?_ ?_
  · have h1 := hI'.2.2.2.1.1
    have := (hK.2 0 (by omega)).resolve_right (by rw [h1.1]; decide)
    exact ⟨by omega, Tr_r, this.1, this.2, fun z => absurd rfl z⟩
  · intro a b ta ⟨ha, ta', k1, k2, _⟩ ⟨c, hc, e1, e2⟩
    have hh : kd (σ 1) a = 2 ∧ pt (σ 1) a 0 ≠ 0 := by
      refine Classical.byContradiction fun z => e1 ?_
      unfold en; rw [if_neg (fun y => z ⟨y.1, y.2.1⟩)]
    have hb := (hV a c ha hc).2 e1
    rw [e2] at hb
    rw [en_m hh.1 hh.2] at e1 e2
    have hh' : kd (σ' 1) a = 2 ∧ pt (σ' 1) a 0 ≠ 0 := ⟨by rw [k1]; exact hh.1, by rw [k2 0 (by omega)]; exact hh.2⟩
    have hp : pt (σ 1) a 0 < 36 := by
      rcases (hI.1.1 a ha).2.1 0 (by omega) with e | e
      · omega
      · exact e.1
    have ew : σ' 2 (8 * pt (σ' 1) a 0 + c) = σ 2 (8 * pt (σ 1) a 0 + c) := by rw [hK.1, k2 0 (by omega)]
    have g := Inw_V11 hI' (8 * pt (σ' 1) a 0 + c) (by rw [k2 0 (by omega)]; omega) (by rw [show (8 * pt (σ' 1) a 0 + c) / 8 = pt (σ' 1) a 0 by omega]; exact DBm ha hh'.1 hh'.2) (by rw [ew]; exact e1)
    rw [ew, e2] at g
    have := (hK.2 b hb).resolve_right g.2.1
    refine ⟨hb, Tr_s ta' ⟨c, hc, ?_, ?_⟩, this.1, this.2, fun _ => ⟨g.2.2.1, by rw [← this.1]; exact g.2.1⟩⟩
    · rw [en_m hh'.1 hh'.2, ew]; exact e1
    · rw [en_m hh'.1 hh'.2, ew]; exact e2
theorem sn_lt (h : Inw n σ) {d c : Nat} (hT : VT (σ 1)) (hd : d < 18) (h2 : kd (σ 1) d = 2) (hp : pt (σ 1) d 0 ≠ 0) (hc : c < 8) : sdw (σ 5) (σ 6) (8 * pt (σ 1) d 0 + c) < 2 ^ 31 := by
  have hb := (isD_p hT hd (k := 0) (by omega) hp).1
  rw [← sn_sdw]
  by_cases z : sn σ (8 * pt (σ 1) d 0 + c) = 0
  · omega
  · have := (Inw_V12 h (8 * pt (σ 1) d 0 + c) (by omega) (by rw [show (8 * pt (σ 1) d 0 + c) / 8 = pt (σ 1) d 0 by omega]; exact DBm hd h2 hp) z).1.2.1; omega
-- a place in a directory: class and reference
theorem pl_V (hF : 8 < F) (hI : Inv n σ) {d : Nat} (hd : d < 18) (h2 : kd (σ 1) d = 2) (hp : pt (σ 1) d 0 ≠ 0) : s_V_placeIn F (zz (σ 1)) (zz (σ 2)) (zz z1) (zz (σ 5)) (zz (σ 6)) (nI d) = some (ans (sr (pc0 (σ 1) (σ 2) (σ 5) (σ 6) d) 8) 8) :=
  cf_placeIn hF (Inv_VT1 hI) (fun b hb => ((Inw_V5 hI.2.1).2.1 b hb).1) hd h2 hp (fun c hc => (VEm hI.2.1 d c hd hc).1) (fun c hc => sn_lt hI.2.1 (Inv_VT1 hI) hd h2 hp hc)
theorem pl_R (hF : 8 < F) (hI : Inv n σ) {d : Nat} (hd : d < 18) (h2 : kd (σ 1) d = 2) (hp : pt (σ 1) d 0 ≠ 0) : s_R_place F (zz (rM (σ 0) (σ 1) (σ 2))) (zz (rM (σ 3) (σ 4) (σ 5))) (zz (σ 6)) (nI d) = some (ans (sr (pc0 (σ 1) (σ 2) (σ 5) (σ 6) d) 8) 8) :=
  cf_place hF (Inv_VT1 hI) (fun b hb => ((Inw_V5 hI.2.1).2.1 b hb).1) hd h2 hp (fun c hc => (VEm hI.2.1 d c hd hc).1) (fun c hc => sn_lt hI.2.1 (Inv_VT1 hI) hd h2 hp hc)
-- an entry for an inode of the tree
theorem en_Inv {d c m i : Nat} (hn : n < 512) (hI : Inv n σ) (hd : d < 18) (t : Tr (Ed (σ 1) (σ 2) z1) 0 d) (h2 : kd (σ 1) d = 2) (hc : c < 8) (hpl : pc0 (σ 1) (σ 2) (σ 5) (σ 6) d c) (m1 : 1 ≤ m) (m2 : m ≤ 999) (i0 : 0 < i) (i18 : i < 18) (ti : Tr (Ed (σ 1) (σ 2) z1) 0 i) : Inv (n + 1) (enS σ (8 * pt (σ 1) d 0 + c) (32 * m + i)) := by
  have hp := tree_pt hI.2.1 t h2
  have hb := (isD_p (Inv_VT1 hI) hd (k := 0) (by omega) hp).1
  have e8 : (8 * pt (σ 1) d 0 + c) / 8 = pt (σ 1) d 0 := by omega
  have hei : (32 * m + i) % 32 = i := by omega
  obtain ⟨p, p1, p2, p3, p4⟩ := tree_nm hI.2.1 ti (by omega)
  obtain ⟨-, g2, g3, g4, -⟩ := Inw_V11 hI.2.1 p p1 p2 p3
  rw [p4] at g2 g3 g4
  have h0 : σ 2 (8 * pt (σ 1) d 0 + c) = 0 := by have := hpl.1; rw [en_m h2 hp] at this; exact this
  refine ⟨by omega, en_Inw (d := d) hI.2.1 (by omega) hd h2 (by rw [e8]) (by rw [e8]; exact hp) h0 hpl.2 ⟨by omega, by omega, by omega, by omega⟩ (by rw [hei]; exact g2) (by rw [hei]; exact g3) (by rw [hei]; exact g4) (fun z => tree_nm hI.2.1 t z), ?_⟩
  exact en_Ins (fun j a b c _ => hI.2.2.1 j a b c) hI.2.2.2.1 hI.2.2.2.2.1 hI.2.2.2.2.2
theorem lk_core {d c m i : Nat} {q q2 : AR} {C : Nat → Nat} {S1 S2 S3 : Nat → Prop} (hF : 8 < F) (hn : n < 512) (hI : Inv n σ) (hd : d < 18) (t : Tr (Ed (σ 1) (σ 2) z1) 0 d) (h2 : kd (σ 1) d = 2) (hc : c < 8) (hpl : sr (pc0 (σ 1) (σ 2) (σ 5) (σ 6) d) 8 = c) (m1 : 1 ≤ m) (m2 : m ≤ 999) (i0 : 0 < i) (i18 : i < 18) :
    s_V_link_55 F (zz z1) (nI d) (nI m) (nI i) (zz (σ 0)) (zz (σ 1)) (zz (σ 2)) q (zz (σ 3)) (zz (σ 4)) (zz (σ 5)) (zz (σ 6)) q2 (zz (σ 7)) (zz (σ 8)) (zz (σ 9)) (nI (σ 10 0)) = OutV (nI (lk (σ 1) i + 1)) (enS σ (8 * pt (σ 1) d 0 + c) (32 * m + i)) q q2 ∧
    s_R_link_65 F (nI d) (nI m) (nI i) (bz (yb σ)) (zz (σ 8)) (zz (rM (σ 0) (σ 1) (σ 2))) (zz (rM (σ 3) (σ 4) (σ 5))) (zz (σ 6)) (bz (fun i => σ 9 i = 2)) (zz (owd σ)) (zz C) (bz S1) (bz S2) (bz S3) (nI (σ 10 0)) = OutR (nI (lk (σ 1) i + 1)) (enS σ (8 * pt (σ 1) d 0 + c) (32 * m + i)) C S1 S2 S3 := by
  have hp := tree_pt hI.2.1 t h2
  have hb := (isD_p (Inv_VT1 hI) hd (k := 0) (by omega) hp).1
  have hei : (32 * m + i) % 32 = i := by omega
  have hok : ok (32 * m + i) := ⟨by omega, by omega, by omega, by omega⟩
  have hsn : sn σ (8 * pt (σ 1) d 0 + c) = 0 := by
    have := (sr_spec (pc0 (σ 1) (σ 2) (σ 5) (σ 6) d) 8).2.1 (by omega)
    rw [hpl] at this; exact this.2
  have el : lk (enS σ (8 * pt (σ 1) d 0 + c) (32 * m + i) 1) i = lk (σ 1) i + 1 := by rw [en_lk, hei, if_pos rfl]
  constructor
  · unfold s_V_link_55
    rw [bd_e (pl_V hF hI hd h2 hp), hpl, ans_t hc, if_neg (nI_m1 (by omega)), show nI 32 * nI m + nI i = nI (32 * m + i) by rw [pk_mul, nI_add], bd_e (cf_makeEntry (Inw_V5 hI.2.1) hd hb hc hok)]
    show bd (s_S_links (zz (enS σ (8 * pt (σ 1) d 0 + c) (32 * m + i) 1)) (nI i)) _ = _
    rw [bd_e (cf_links i18), el]; rfl
  · unfold s_R_link_65
    rw [bd_e (cf_enter hF hI.2.1 (by omega) hd h2 hp hc m1 m2 i0 i18 hpl)]
    show bd (s_R_at (nI i) (nI 1)) _ = _
    rw [bd_e (cf_at i18 (by omega)), rd_t i18 (by omega)]
    show some (nI (lk (enS σ (8 * pt (σ 1) d 0 + c) (32 * m + i) 1) i), _) = _
    rw [el]
    show _ = some (_, _, _, _, _, _, _, zz (owd (enS σ (8 * pt (σ 1) d 0 + c) (32 * m + i))), _)
    rw [en_owd hsn]; rfl
end LK
