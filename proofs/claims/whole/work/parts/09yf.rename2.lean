section RQ
variable {n F : Nat} {σ : St}
theorem cf_rename_70 {d3 i : Nat} {x1 x2 x4 fl mv : Int32} {Y D dsk fr R O Cc I1 I2 : AR} (hF : 18 < F) (hI : Inv n σ) (hd3 : d3 < 18) (hi : i < 18) : ∀ (r k n' : Nat) (S : Nat → Prop), k + r = 18 → r < n' → (∀ j, j < k → (S j ↔ j = i)) → ∃ S' : Nat → Prop,
    s_R_rename_70 F n' x1 x2 (nI d3) x4 (nI i) fl (nI k) Y D (zz (rM (σ 0) (σ 1) (σ 2))) dsk fr R O Cc I1 I2 (bz S) mv = (if fl = 0 then s_R_rename_128 F x1 x2 (nI d3) x4 (nI i) fl Y D (zz (rM (σ 0) (σ 1) (σ 2))) dsk fr R O Cc I1 I2 (bz S') mv else pif (Tr (Ed (σ 1) (σ 2) z1) i d3) (some (-4, Y, D, zz (rM (σ 0) (σ 1) (σ 2)), dsk, fr, R, O, Cc, I1, I2, bz S', mv)) (s_R_rename_128 F x1 x2 (nI d3) x4 (nI i) fl Y D (zz (rM (σ 0) (σ 1) (σ 2))) dsk fr R O Cc I1 I2 (bz S') mv)) := by
  have hT := Inv_VT1 hI
  have hE := VEm hI.2.1
  intro r
  induction r with
  | zero =>
    intro k n' S h hn' hS
    obtain ⟨n', rfl⟩ : ∃ q, n' = q + 1 := ⟨n' - 1, by omega⟩
    have : k = 18 := by omega
    subst this
    obtain ⟨S', e, h'⟩ := cf_below (F := F) (mem := zz (rM (σ 0) (σ 1) (σ 2))) (dsk := dsk) (fresh := fr) (x1 := nI 0) (E := Ed (σ 1) (σ 2) z1) (r0 := i) (S := S) hF (fun i S hi => cf_spread_m (by omega) hT hE hi S) (Ed_lt hE) hi hS
    refine ⟨S', ?_⟩
    unfold s_R_rename_70
    rw [if_pos (nI_le (Nat.le_refl _) (by omega)), e_s_R_below_then, bd_e e]
    by_cases f0 : fl = 0
    · rw [if_pos f0, if_pos f0]
    · rw [if_neg f0, if_neg f0, gr_e d3 rfl hd3 (by decide)]
      by_cases t : Tr (Ed (σ 1) (σ 2) z1) i d3
      · rw [pif_t t, show bz S' d3 = nI 1 from pif_t ((h' d3 hd3).mpr t), if_neg nn1]
      · rw [pif_f t, show bz S' d3 = nI 0 from pif_f (fun z => t ((h' d3 hd3).mp z)), if_pos (show nI 0 = 0 from rfl)]
  | succ r ih =>
    intro k n' S h hn' hS
    obtain ⟨n', rfl⟩ : ∃ q, n' = q + 1 := ⟨n' - 1, by omega⟩
    unfold s_R_rename_70 s_R_rename_95
    rw [if_neg (nI_ge (by omega) (by omega))]
    by_cases e : k = i
    · rw [if_pos (by rw [e]), ga_e k rfl (by omega) (by decide), nI_clamp (by omega), nar1, bz_1, nI_add]
      exact ih (k + 1) n' _ (by omega) (by omega) (fun j hj => ⟨fun z => z.elim (fun y => by
        by_cases jk : j = k
        · omega
        · exact (hS j (by omega)).mp y) (fun y => by omega), fun z => Or.inr (by omega)⟩)
    · rw [if_neg (fun z => e ((nI32 (by omega) (by omega)).mp z)), ga_e k rfl (by omega) (by decide), nI_clamp (by omega), nar0, bz_0, nI_add]
      exact ih (k + 1) n' _ (by omega) (by omega) (fun j hj => ⟨fun z => (hS j (by omega)).mp z.1, fun z => ⟨(hS j (by omega)).mpr z, by omega⟩⟩)
end RQ
