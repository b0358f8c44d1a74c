section WR
variable {n F : Nat} {σ : St} {i k : Nat}
theorem bfp_or {M T : Nat → Nat} (hT : VT T) (hi : i < 18) (hk : k < 3) : bfp M T i k = -1 ∨ ∃ b, isD b ∧ bm M b = 0 ∧ bfp M T i k = nI b := by
  unfold bfp
  by_cases h : k ≠ 0 ∧ pt T i (k - 1) ≠ 0 ∧ pt T i (k - 1) % 12 < 11 ∧ bm M (pt T i (k - 1) + 1) = 0
  · rw [pif_t h]
    have := isD_p hT hi (k := k - 1) (by omega) h.2.1
    exact Or.inr ⟨_, ⟨by have := this.1; omega, by have := this.2; omega⟩, h.2.2.2, rfl⟩
  · rw [pif_f h]
    unfold fb
    by_cases h' : sr (fun j => frb M ((12 * (i / 6) + j) % 36)) 36 < 36
    · rw [if_pos h']
      have := (sr_spec (fun j => frb M ((12 * (i / 6) + j) % 36)) 36).2.1 h'
      exact Or.inr ⟨_, ⟨Nat.mod_lt _ (by omega), this.1⟩, this.2, rfl⟩
    · rw [if_neg h']; exact Or.inl rfl
theorem wr_92 {w v : Nat} {q q2 : AR} {C : Nat → Nat} {S1 S2 S3 : Nat → Prop} (h : Inw n σ) (hn : n ≤ 1000) (hi : i < 18) (hk : k = w / 8) (hw : w < 24) (h0 : pt (σ 1) i k ≠ 0) (h1 : kd (σ 1) i = 1) (hv : v < 2 ^ 32) :
    s_V_write_92 F (zz z1) (nI i) (nI w) (nI v) (nI k) (zz (σ 0)) (zz (σ 1)) (zz (σ 2)) q (zz (σ 3)) (zz (σ 4)) (zz (σ 5)) (zz (σ 6)) q2 (zz (σ 7)) (zz (σ 8)) (zz (σ 9)) (nI (σ 10 0)) = OutV (nI (pt (σ 1) i k)) (wdS σ (8 * pt (σ 1) i k + w % 8) v) q q2 ∧
    s_R_write_96 F (nI i) (nI w) (nI v) (nI k) (bz (yb σ)) (zz (σ 8)) (zz (rM (σ 0) (σ 1) (σ 2))) (zz (rM (σ 3) (σ 4) (σ 5))) (zz (σ 6)) (bz (fun i => σ 9 i = 2)) (zz (owd σ)) (zz C) (bz S1) (bz S2) (bz S3) (nI (σ 10 0)) = OutR (nI (pt (σ 1) i k)) (wdS σ (8 * pt (σ 1) i k + w % 8) v) C S1 S2 S3 := by
  have hT := Inw_VT1 h hn
  have hD := isD_p hT hi (k := k) (by omega) h0
  have hb := hD.1
  have hc : w % 8 < 8 := by omega
  constructor
  · unfold s_V_write_92
    rw [bd_e (cf_pointer hi (by omega)), pk_rem (by omega) (by decide) (by decide), bd_e (cf_setWord hb hc)]; rfl
  · unfold s_R_write_96
    rw [nI_add, bd_e (cf_at hi (by omega)), rd_t hi (by omega), pk_rem (by omega) (by decide) (by decide), show 5 * i + (2 + k) = 5 * i + 2 + k by omega, show nI 30 * nI (σ 1 (5 * i + 2 + k)) + nI (w % 8) = nI (30 * pt (σ 1) i k + w % 8) by rw [pk_mul, nI_add], ga_e _ rfl (by omega) (by decide), nI_clamp (by omega), zz_up, up_w hD hc]
    show _ = some (_, _, _, _, _, _, _, zz (owd (wdS σ (8 * pt (σ 1) i k + w % 8) v)), _)
    rw [(wd_Inv h hi (by omega) h0 h1 hc hv).2]; rfl
theorem wr_65 {w v b : Nat} {q q2 : AR} {C : Nat → Nat} {S1 S2 S3 : Nat → Prop} (hF : 36 < F) (h : Inw n σ) (hn : n ≤ 1000) (hi : i < 18) (hk : k = w / 8) (hw : w < 24) (h0 : pt (σ 1) i k = 0) (h1 : kd (σ 1) i = 1) (hv : v < 2 ^ 32) (hb : isD b) (hm : bm (σ 0) b = 0) (hf : bfp (σ 0) (σ 1) i k = nI b) :
    s_V_write_65 F (zz z1) (nI i) (nI w) (nI v) (nI k) (nI b) (zz (σ 0)) (zz (σ 1)) (zz (σ 2)) q (zz (σ 3)) (zz (σ 4)) (zz (σ 5)) (zz (σ 6)) q2 (zz (σ 7)) (zz (σ 8)) (zz (σ 9)) (nI (σ 10 0)) = OutV (nI b) (wdS (tkS σ i k b) (8 * b + w % 8) v) q q2 ∧
    s_R_write_58 F (nI i) (nI w) (nI v) (nI k) (bz (yb σ)) (zz (σ 8)) (zz (rM (σ 0) (σ 1) (σ 2))) (zz (rM (σ 3) (σ 4) (σ 5))) (zz (σ 6)) (bz (fun i => σ 9 i = 2)) (zz (owd σ)) (zz C) (bz S1) (bz S2) (bz S3) (nI (σ 10 0)) = OutR (nI b) (wdS (tkS σ i k b) (8 * b + w % 8) v) C S1 S2 S3 := by
  have hT := Inw_VT1 h hn
  have hk3 : k < 3 := by omega
  obtain ⟨w1, -, w3, w4⟩ := tk_Inw h hi hk3 h0 hb hm (by omega) (by omega)
  have hb0 : b ≠ 0 := by have := hb.2; intro z; rw [z] at this; omega
  have hb36 := hb.1
  have hp : pt (tkS σ i k b 1) i k = b := tk_pt1
  obtain ⟨g1, g2⟩ := wr_92 (F := F) (q := q) (q2 := q2) (C := C) (S1 := S1) (S2 := S2) (S3 := S3) w1 hn hi hk hw (by rw [hp]; exact hb0) (by rw [tk_kd hk3]; exact h1) hv
  rw [hp] at g1 g2
  constructor
  · unfold s_V_write_65
    rw [if_neg (nI_m1 (by omega)), bd_e (cf_takeBlock (by omega) hb)]
    show bd (s_S_setPointer (nI i) (nI k) (nI b) (zz (σ 1))) _ = _
    rw [bd_e (cf_setPointer hi hk3)]
    exact g1
  · unfold s_R_write_58
    rw [bd_e (cf_blockFor hF hT (fun m hm => ((Inw_V5 h).1 m hm).1) hi hk3), hf, if_pos (nI_pos' (by omega)), bd_e (cf_take (by omega) hb)]
    show bd (s_R_at (nI i) (nI 2 + nI k)) _ = _
    rw [nI_add, bd_e (cf_at hi (by omega)), ga_e _ rfl (by omega) (by decide), nI_clamp (by omega), zz_up, up_t hi (by omega), show 5 * i + (2 + k) = 5 * i + 2 + k by omega]
    rw [w3, w4] at g2
    exact g2
end WR
