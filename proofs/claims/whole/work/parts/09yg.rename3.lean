theorem rn_121 {n F : Nat} {σ : St} {d1 d3 m2 m4 c1 i : Nat} {fl : Int32} {q q2 : AR} {C : Nat → Nat} {S1 S2 S3 : Nat → Prop} (hF : 300 < F) (hS : SYN F) (hn : n < 512) (hI : Inv n σ) (hd1 : d1 < 18) (t1 : Tr (Ed (σ 1) (σ 2) z1) 0 d1) (k1 : kd (σ 1) d1 = 2) (hd3 : d3 < 18) (t3 : Tr (Ed (σ 1) (σ 2) z1) 0 d3) (k3 : kd (σ 1) d3 = 2) (m21 : 1 ≤ m2) (m22 : m2 ≤ 999) (m41 : 1 ≤ m4) (m42 : m4 ≤ 999) (hc1 : c1 < 8) (hs1 : sr (fun c => en (σ 1) (σ 2) z1 d1 c / 32 = m2) 8 = c1) (hi : σ 2 (8 * pt (σ 1) d1 0 + c1) % 32 = i) (hno : ∀ c, c < 8 → ¬ en (σ 1) (σ 2) z1 d3 c / 32 = m4) :
    ∃ r ρ q' q2' C' S1' S2' S3', Inv (n + 1) ρ ∧ s_V_rename_121 F (zz z1) (nI d1) (nI d3) (nI m4) (nI c1) (nI i) fl (zz (σ 0)) (zz (σ 1)) (zz (σ 2)) q (zz (σ 3)) (zz (σ 4)) (zz (σ 5)) (zz (σ 6)) q2 (zz (σ 7)) (zz (σ 8)) (zz (σ 9)) (nI (σ 10 0)) = OutV r ρ q' q2' ∧
    s_R_rename_128 F (nI d1) (nI m2) (nI d3) (nI m4) (nI i) fl (bz (yb σ)) (zz (σ 8)) (zz (rM (σ 0) (σ 1) (σ 2))) (zz (rM (σ 3) (σ 4) (σ 5))) (zz (σ 6)) (bz (fun i => σ 9 i = 2)) (zz (owd σ)) (zz C) (bz S1) (bz S2) (bz S3) (nI (σ 10 0)) = OutR r ρ C' S1' S2' S3' := by
  have hT := Inv_VT1 hI
  have hE := VEm hI.2.1
  have hp3 := tree_pt hI.2.1 t3 k3
  have hEd : ∀ c, c < 8 → en (σ 1) (σ 2) z1 d3 c < 2 ^ 31 := fun c hc => (hE d3 c hd3 hc).1
  have eN := cf_entries (F := F) (A := σ 0) (T := σ 1) (W := σ 2) (by omega) hT hd3 k3 hp3 hEd
  have eM := cf_entryCount (F := F) (by omega) hT z1_le hd3 hEd
  have hcn := cn_le (P := fun c' => en (σ 1) (σ 2) z1 d3 c' ≠ 0) (n := 8)
  unfold s_V_rename_121 s_R_rename_128
  rw [bd_e eM, bd_e eN]
  by_cases h8 : cn (fun c' => en (σ 1) (σ 2) z1 d3 c' ≠ 0) 8 = 8
  · rw [h8, if_pos rfl, if_pos rfl]
    exact ⟨-3, σ, _, _, _, _, _, _, Inv_s hI hn, rfl, rfl⟩
  · have h8' : ¬ nI (cn (fun c' => en (σ 1) (σ 2) z1 d3 c' ≠ 0) 8) = nI 8 := fun z => h8 ((nI32 (by omega) (by omega)).mp z)
    rw [if_neg h8', if_neg h8', bd_e (pl_V (by omega) hI hd3 k3 hp3), bd_e (pl_R (by omega) hI hd3 k3 hp3)]
    by_cases hpl : sr (pc0 (σ 1) (σ 2) (σ 5) (σ 6) d3) 8 < 8
    · rw [ans_t hpl, if_neg (nI_m1 (by omega)), if_pos (nI_pos' (by omega))]
      obtain ⟨ρ, C', a, b, c⟩ := rn_core (F := F) (fl := fl) (q := q) (q2 := q2) (C := C) (S1 := S1) (S2 := S2) (S3 := S3) hF hn hI hd1 t1 k1 hd3 t3 k3 m21 m22 m41 m42 hc1 hs1 hi hno hpl rfl
      exact ⟨_, ρ, q, q2, C', S1, S2, S3, a, b, c⟩
    · rw [ans_f hpl, if_pos rfl, if_neg (show ¬ (0 : Int32) ≤ -1 by decide)]
      obtain ⟨r, τ, q', q2', C', T1, T2, T3, hJ, hK, hA, eV, eR⟩ := hS n σ q q2 C S1 S2 S3 hI
      rw [bd_e eV, bd_e eR]
      obtain ⟨-, t1', kd1', pt1', -⟩ := Kp_tree hJ.2.1 hI.2.1 hK t1
      obtain ⟨-, t3', kd3', pt3', -⟩ := Kp_tree hJ.2.1 hI.2.1 hK t3
      have k1' : kd (τ 1) d1 = 2 := by rw [kd1']; exact k1
      have k3' : kd (τ 1) d3 = 2 := by rw [kd3']; exact k3
      have hp1 := tree_pt hI.2.1 t1 k1
      have hp1' := tree_pt hJ.2.1 t1' k1'
      have hp3' := tree_pt hJ.2.1 t3' k3'
      have hpl' : sr (pc0 (τ 1) (τ 2) (τ 5) (τ 6) d3) 8 < 8 := by
        refine sr_lt.mpr (Classical.byContradiction fun z => h8 ?_)
        have : cn (fun c' => en (σ 1) (σ 2) z1 d3 c' ≠ 0) 8 = cn (fun _ => True) 8 := cn_congr (fun c hc => ⟨fun _ => trivial, fun _ y => z ⟨c, hc, ?_⟩⟩)
        · rw [this]; exact cn_true
        · rw [en_m k3 hp3] at y
          have y' : τ 2 (8 * pt (τ 1) d3 0 + c) = 0 := by rw [hK.1, pt3' 0 (by omega)]; exact y
          refine ⟨by rw [en_m k3' hp3']; exact y', ?_⟩
          have := hA d3 c hd3 k3' hp3' hc
          rw [y'] at this
          exact this.symm
      have hs1' : sr (fun c => en (τ 1) (τ 2) z1 d1 c / 32 = m2) 8 = c1 := by
        rw [← hs1]
        refine sr_congr (fun c hc => ?_)
        rw [en_m k1' hp1', en_m k1 hp1, hK.1, pt1' 0 (by omega)]
      have hi' : τ 2 (8 * pt (τ 1) d1 0 + c1) % 32 = i := by rw [hK.1, pt1' 0 (by omega)]; exact hi
      have hno' : ∀ c, c < 8 → ¬ en (τ 1) (τ 2) z1 d3 c / 32 = m4 := fun c hc => by
        have := hno c hc
        rw [en_m k3 hp3] at this
        rw [en_m k3' hp3', hK.1, pt3' 0 (by omega)]; exact this
      obtain ⟨ρ, C2, a, b, c⟩ := rn_core (F := F) (fl := fl) (q := q') (q2 := q2') (C := C') (S1 := T1) (S2 := T2) (S3 := T3) hF hn hJ hd1 t1' k1' hd3 t3' k3' m21 m22 m41 m42 hc1 hs1' hi' hno' hpl' rfl
      rw [hK.1] at b
      exact ⟨_, ρ, q', q2', C2, T1, T2, T3, a, b, c⟩
