-- rename
def rnS (σ : St) (v : Nat) : St := fun c => if c = 10 then (fun _ => v) else σ c
section RN
variable {n F : Nat} {σ : St}
theorem rn_Inv {v : Nat} (h : Inv n σ) (hv : v ≤ 1) : Inv n (rnS σ v) := by
  obtain ⟨hn, ⟨a, b, c, d, e, f, g⟩, hs⟩ := h
  exact ⟨hn, ⟨a, b, c, d, e, ⟨f.1, f.2.1, ⟨hv, f.2.2.1.2⟩, f.2.2.2⟩, g⟩, hs⟩
theorem rn_owd {v : Nat} : owd (rnS σ v) = owd σ := rfl
theorem rn_core {d1 d3 m2 m4 c1 c3 i : Nat} {fl : Int32} {q q2 : AR} {C : Nat → Nat} {S1 S2 S3 : Nat → Prop} (hF : 300 < F) (hn : n < 512) (hI : Inv n σ) (hd1 : d1 < 18) (t1 : Tr (Ed (σ 1) (σ 2) z1) 0 d1) (k1 : kd (σ 1) d1 = 2) (hd3 : d3 < 18) (t3 : Tr (Ed (σ 1) (σ 2) z1) 0 d3) (k3 : kd (σ 1) d3 = 2) (m21 : 1 ≤ m2) (m22 : m2 ≤ 999) (m41 : 1 ≤ m4) (m42 : m4 ≤ 999) (hc1 : c1 < 8) (hs1 : sr (fun c => en (σ 1) (σ 2) z1 d1 c / 32 = m2) 8 = c1) (hi : σ 2 (8 * pt (σ 1) d1 0 + c1) % 32 = i) (hno : ∀ c, c < 8 → ¬ en (σ 1) (σ 2) z1 d3 c / 32 = m4) (hc3 : c3 < 8) (hs3 : sr (pc0 (σ 1) (σ 2) (σ 5) (σ 6) d3) 8 = c3) :
    ∃ ρ C', Inv (n + 1) ρ ∧ s_V_rename_151 F (zz z1) (nI d1) (nI d3) (nI m4) (nI c1) (nI i) fl (zz (σ 0)) (zz (σ 1)) (zz (σ 2)) q (zz (σ 3)) (zz (σ 4)) (zz (σ 5)) (zz (σ 6)) q2 (zz (σ 7)) (zz (σ 8)) (zz (σ 9)) (nI (σ 10 0)) = OutV (nI i) ρ q q2 ∧
    s_R_rename_154 F (nI d1) (nI m2) (nI d3) (nI m4) (nI i) fl (bz (yb σ)) (zz (σ 8)) (zz (rM (σ 0) (σ 1) (σ 2))) (zz (rM (σ 3) (σ 4) (σ 5))) (zz (σ 6)) (bz (fun i => σ 9 i = 2)) (zz (owd σ)) (zz C) (bz S1) (bz S2) (bz S3) (nI (σ 10 0)) = OutR (nI i) ρ C' S1 S2 S3 := by
  have hT := Inv_VT1 hI
  have hp1 := tree_pt hI.2.1 t1 k1
  have hp3 := tree_pt hI.2.1 t3 k3
  have hb1 := (isD_p hT hd1 (k := 0) (by omega) hp1).1
  have hb3 := (isD_p hT hd3 (k := 0) (by omega) hp3).1
  have hcs : en (σ 1) (σ 2) z1 d1 c1 / 32 = m2 := by
    have := (sr_spec (fun c => en (σ 1) (σ 2) z1 d1 c / 32 = m2) 8).2.1 (by omega)
    rw [hs1] at this; exact this
  rw [en_m k1 hp1] at hcs
  have h0 : σ 2 (8 * pt (σ 1) d1 0 + c1) ≠ 0 := by intro z; rw [z] at hcs; omega
  have hD1 : DB σ ((8 * pt (σ 1) d1 0 + c1) / 8) := by rw [show (8 * pt (σ 1) d1 0 + c1) / 8 = pt (σ 1) d1 0 by omega]; exact DBm hd1 k1 hp1
  obtain ⟨ok1, ekd, eim, epp, -⟩ := Inw_V11 hI.2.1 (8 * pt (σ 1) d1 0 + c1) (by omega) hD1 h0
  rw [hi] at ekd eim epp
  have i18 : i < 18 := by rw [← hi]; exact ok1.2.2.2
  have i0 : 0 < i := by rw [← hi]; exact ok1.2.2.1
  have ti : Tr (Ed (σ 1) (σ 2) z1) 0 i := Tr_s t1 ⟨c1, hc1, by rw [en_m k1 hp1]; exact h0, by rw [en_m k1 hp1]; exact hi⟩
  have hpc : pc0 (σ 1) (σ 2) (σ 5) (σ 6) d3 c3 := by
    have := (sr_spec (pc0 (σ 1) (σ 2) (σ 5) (σ 6) d3) 8).2.1 (by omega)
    rw [hs3] at this; exact this
  have z3 : σ 2 (8 * pt (σ 1) d3 0 + c3) = 0 := by have := hpc.1; rw [en_m k3 hp3] at this; exact this
  have s3 : sn σ (8 * pt (σ 1) d3 0 + c3) = 0 := hpc.2
  have hT1 := en_Inv hn hI hd3 t3 k3 hc3 hpc m41 m42 i0 i18 ti
  have hok : ok (32 * m4 + i) := ⟨by omega, by omega, by omega, by omega⟩
  have hei : (32 * m4 + i) % 32 = i := by omega
  have e1 := cf_makeEntry (σ := σ) (c := c3) (Inw_V5 hI.2.1) hd3 hb3 hc3 hok
  have e2 := cf_enter (F := F) (by omega) hI.2.1 (by omega) hd3 k3 hp3 hc3 m41 m42 i0 i18 hs3
  have eo := en_owd (σ := σ) (e := 32 * m4 + i) s3
  have hne : 8 * pt (σ 1) d1 0 + c1 ≠ 8 * pt (σ 1) d3 0 + c3 := fun z => h0 (by rw [z]; exact z3)
  have ew1 : enS σ (8 * pt (σ 1) d3 0 + c3) (32 * m4 + i) 2 (8 * pt (σ 1) d1 0 + c1) = σ 2 (8 * pt (σ 1) d1 0 + c1) := by rw [en_w, if_neg hne]
  have hDB3 : DB (enS σ (8 * pt (σ 1) d3 0 + c3) (32 * m4 + i)) ((8 * pt (σ 1) d3 0 + c3) / 8) := by
    rw [en_DB, show (8 * pt (σ 1) d3 0 + c3) / 8 = pt (σ 1) d3 0 by omega]; exact DBm hd3 k3 hp3
  have hw3 : enS σ (8 * pt (σ 1) d3 0 + c3) (32 * m4 + i) 2 (8 * pt (σ 1) d3 0 + c3) = 32 * m4 + i := by rw [en_w, if_pos rfl]
  have kk1 : kd (enS σ (8 * pt (σ 1) d3 0 + c3) (32 * m4 + i) 1) d1 = 2 := by rw [en_kd]; exact k1
  have pp1 : pt (enS σ (8 * pt (σ 1) d3 0 + c3) (32 * m4 + i) 1) d1 0 = pt (σ 1) d1 0 := en_pt (by omega)
  have hsn : sn (enS σ (8 * pt (σ 1) d3 0 + c3) (32 * m4 + i)) (8 * pt (σ 1) d1 0 + c1) = sn σ (8 * pt (σ 1) d1 0 + c1) := rfl
  -- the reference finds the old entry again
  have hsr : sr (fun c => en (enS σ (8 * pt (σ 1) d3 0 + c3) (32 * m4 + i) 1) (enS σ (8 * pt (σ 1) d3 0 + c3) (32 * m4 + i) 2) z1 d1 c / 32 = m2) 8 = c1 := by
    rw [← hs1]
    refine sr_congr (fun c hc => ?_)
    rw [en_m kk1 (by rw [pp1]; exact hp1), en_m k1 hp1, pp1, en_w]
    by_cases z : 8 * pt (σ 1) d1 0 + c = 8 * pt (σ 1) d3 0 + c3
    · have hdd : d1 = d3 := (hI.2.1.2.2.1.1 d1 d3 0 0 hd1 hd3 (by omega) (by omega) hp1 (by omega)).1
      rw [if_pos z, z, z3]
      refine ⟨fun y => ?_, fun y => by omega⟩
      exfalso
      have y' : m4 = m2 := by omega
      refine hno c1 hc1 ?_
      rw [← hdd, en_m k1 hp1, y']; exact hcs
    · rw [if_neg z]
  have hT' := Inv_VT1 hT1
  have hE' := VEm hT1.2.1
  have eF := cf_find (F := F) (A := σ 0) (T := enS σ (8 * pt (σ 1) d3 0 + c3) (32 * m4 + i) 1) (W := enS σ (8 * pt (σ 1) d3 0 + c3) (32 * m4 + i) 2) (m := m2) (by omega) hT' hd1 kk1 (by rw [pp1]; exact hp1) (by omega) (fun c hc => (hE' d1 c hd1 hc).1)
  rw [hsr, ans_t hc1] at eF
  generalize hτ : enS σ (8 * pt (σ 1) d3 0 + c3) (32 * m4 + i) = τ at *
  have hEE : kd (τ 1) (τ 2 (8 * pt (τ 1) d1 0 + c1) % 32) = 2 → (∀ c', c' < 8 → τ 2 (8 * pt (τ 1) (τ 2 (8 * pt (τ 1) d1 0 + c1) % 32) 0 + c') = 0) ∨ ∃ p, p ≠ 8 * pt (τ 1) d1 0 + c1 ∧ p < 288 ∧ DB τ (p / 8) ∧ nmM τ (τ 2 (8 * pt (τ 1) d1 0 + c1) % 32) p := by
    intro _
    right
    rw [pp1, ew1, hi]
    exact ⟨8 * pt (σ 1) d3 0 + c3, fun z => hne z.symm, by omega, hDB3, by rw [hw3]; omega, by rw [hw3]; exact hei⟩
  obtain ⟨gI, g1⟩ := cf_takeEntryAway (F := F) (by omega) (show n + 1 ≤ 512 by omega) hT1.2.1 hT1.2.2 hd1 kk1 (by rw [pp1]; exact hp1) hc1 (by rw [pp1, ew1]; exact h0) hEE
  obtain ⟨C', g2⟩ := cf_leave (F := F) (C := C) hF (show n + 1 ≤ 512 by omega) hT1.2.1 hT1.2.2 hd1 kk1 (by rw [pp1]; exact hp1) hc1 (by rw [pp1, ew1]; exact h0) hEE
  have q0 : τ 0 = σ 0 := by rw [← hτ]; rfl
  have q3 : τ 3 = σ 3 := by rw [← hτ]; rfl
  have q4 : τ 4 = σ 4 := by rw [← hτ]; rfl
  have q5 : τ 5 = σ 5 := by rw [← hτ]; rfl
  have q6 : τ 6 = σ 6 := by rw [← hτ]; rfl
  have q8 : τ 8 = σ 8 := by rw [← hτ]; rfl
  have q9 : τ 9 = σ 9 := by rw [← hτ]; rfl
  generalize hω : rmS τ (8 * pt (τ 1) d1 0 + c1) (if sn τ (8 * pt (τ 1) d1 0 + c1) = 0 then 1 else 0) = ω at gI g1 g2
  have w3 : ω 3 = σ 3 := by rw [← hω, ← q3]; rfl
  have w4 : ω 4 = σ 4 := by rw [← hω, ← q4]; rfl
  have w5 : ω 5 = σ 5 := by rw [← hω, ← q5]; rfl
  have w6 : ω 6 = σ 6 := by rw [← hω, ← q6]; rfl
  rw [q0, q4, q5, q6, q8, q9] at g1
  rw [q0, q3, q4, q5, q6, q8, q9, eo] at g2
  have hv1 : (if σ 10 0 = 0 ∧ fl = 0 then 0 else 1) ≤ 1 := by split <;> omega
  refine ⟨rnS (GB ω) (if σ 10 0 = 0 ∧ fl = 0 then 0 else 1), C', rn_Inv gI hv1, ?_, ?_⟩
  · unfold s_V_rename_151 s_V_rename_202 s_V_rename_207
    rw [bd_e (pl_V (by omega) hI hd3 k3 hp3), hs3, ans_t hc3, if_neg (nI_m1 (by omega)), show nI 32 * nI m4 + nI i = nI (32 * m4 + i) by rw [pk_mul, nI_add], bd_e e1]
    show bd (s_V_takeEntryAway F (zz z1) (zz (σ 4)) (zz (σ 5)) (zz (σ 6)) (nI d1) (nI c1) (zz (σ 0)) (zz (τ 1)) (zz (τ 2)) (zz (τ 7)) (zz (σ 8)) (zz (σ 9))) _ = _
    rw [bd_e g1]
    show (if nI (σ 10 0) = 0 then (if fl = 0 then _ else _) else _) = some (nI i, zz (GB ω 0), zz (GB ω 1), zz (ω 2), q, zz (ω 3), zz (ω 4), zz (ω 5), zz (ω 6), q2, zz (ω 7), zz (GB ω 8), zz (GB ω 9), nI (if σ 10 0 = 0 ∧ fl = 0 then 0 else 1))
    rw [w3, w4, w5, w6]
    have h10 := (Inw_V5 hI.2.1).2.2.1.1
    by_cases z : σ 10 0 = 0
    · rw [if_pos (show nI (σ 10 0) = 0 by rw [z]; rfl)]
      by_cases y : fl = 0
      · rw [if_pos y, if_pos ⟨z, y⟩, gz_e (show nI 0 = 0 ∨ nI 0 = 1 from Or.inl rfl)]
      · rw [if_neg y, if_neg (fun x => y x.2), gz_e (show nI 1 = 0 ∨ nI 1 = 1 from Or.inr rfl)]
    · rw [if_neg (fun x => z ((nI0 (by omega)).mp x)), if_neg (fun x => z x.1), gz_e (show nI 1 = 0 ∨ nI 1 = 1 from Or.inr rfl)]
  · unfold s_R_rename_154 s_R_rename_191 s_R_rename_196
    rw [bd_e e2]
    show bd (s_R_find F (zz (rM (σ 0) (τ 1) (τ 2))) (nI d1) (nI m2)) _ = _
    rw [bd_e eF, bd_e g2]
    show (if nI (σ 10 0) = 0 then (if fl = 0 then _ else _) else _) = some (nI i, bz (yb ω), zz (GB ω 8), zz (rM (GB ω 0) (GB ω 1) (ω 2)), zz (rM (ω 3) (ω 4) (ω 5)), zz (ω 6), bz (fun i => GB ω 9 i = 2), zz (owd (GB ω)), zz C', bz S1, bz S2, bz S3, nI (if σ 10 0 = 0 ∧ fl = 0 then 0 else 1))
    rw [w3, w4, w5, w6]
    have h10 := (Inw_V5 hI.2.1).2.2.1.1
    by_cases z : σ 10 0 = 0
    · rw [if_pos (show nI (σ 10 0) = 0 by rw [z]; rfl)]
      by_cases y : fl = 0
      · rw [if_pos y, if_pos ⟨z, y⟩, gz_e (show nI 0 = 0 ∨ nI 0 = 1 from Or.inl rfl)]
      · rw [if_neg y, if_neg (fun x => y x.2), gz_e (show nI 1 = 0 ∨ nI 1 = 1 from Or.inr rfl)]
    · rw [if_neg (fun x => z ((nI0 (by omega)).mp x)), if_neg (fun x => z x.1), gz_e (show nI 1 = 0 ∨ nI 1 = 1 from Or.inr rfl)]
end RN
