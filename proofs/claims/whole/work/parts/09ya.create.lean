section CE
variable {n F : Nat} {σ τ : St} {d c m i : Nat}
theorem cr_150 {q q2 : AR} {C : Nat → Nat} {S1 S2 S3 : Nat → Prop} (hF : 36 < F) (h : Inw n τ) (hn : n ≤ 1000) (hd : d < 18) (h2 : kd (τ 1) d = 2) (hp : pt (τ 1) d 0 ≠ 0) (hc : c < 8) (hpl : sr (pc0 (τ 1) (τ 2) (τ 5) (τ 6) d) 8 = c) (m1 : 1 ≤ m) (m2 : m ≤ 999) (i0 : 0 < i) (i18 : i < 18) :
    s_V_create_150 F (zz z1) (nI d) (nI m) (nI i) (zz (τ 0)) (zz (τ 1)) (zz (τ 2)) q (zz (τ 3)) (zz (τ 4)) (zz (τ 5)) (zz (τ 6)) q2 (zz (τ 7)) (zz (τ 8)) (zz (τ 9)) (nI (τ 10 0)) = OutV (nI i) (enS τ (8 * pt (τ 1) d 0 + c) (32 * m + i)) q q2 ∧
    s_R_create_170 F (nI d) (nI m) (nI i) (bz (yb τ)) (zz (τ 8)) (zz (rM (τ 0) (τ 1) (τ 2))) (zz (rM (τ 3) (τ 4) (τ 5))) (zz (τ 6)) (bz (fun i => τ 9 i = 2)) (zz (owd τ)) (zz C) (bz S1) (bz S2) (bz S3) (nI (τ 10 0)) = OutR (nI i) (enS τ (8 * pt (τ 1) d 0 + c) (32 * m + i)) C S1 S2 S3 := by
  have hT := Inw_VT1 h hn
  have hb := (isD_p hT hd (k := 0) (by omega) hp).1
  have hok : ok (32 * m + i) := ⟨by omega, by omega, by omega, by omega⟩
  have hsn : sn τ (8 * pt (τ 1) d 0 + c) = 0 := by
    have := (sr_spec (pc0 (τ 1) (τ 2) (τ 5) (τ 6) d) 8).2.1 (by omega)
    rw [hpl] at this; exact this.2
  have ePl : s_V_placeIn F (zz (τ 1)) (zz (τ 2)) (zz z1) (zz (τ 5)) (zz (τ 6)) (nI d) = some (ans (sr (pc0 (τ 1) (τ 2) (τ 5) (τ 6) d) 8) 8) :=
    cf_placeIn (by omega) hT (fun b hb => ((Inw_V5 h).2.1 b hb).1) hd h2 hp (fun c hc => (VEm h d c hd hc).1) (fun c hc => sn_lt h hT hd h2 hp hc)
  constructor
  · unfold s_V_create_150
    rw [bd_e ePl, hpl, ans_t hc, show nI 32 * nI m + nI i = nI (32 * m + i) by rw [pk_mul, nI_add], bd_e (cf_makeEntry (Inw_V5 h) hd hb hc hok)]; rfl
  · unfold s_R_create_170
    rw [bd_e (cf_enter (by omega) h hn hd h2 hp hc m1 m2 i0 i18 hpl)]
    show _ = some (_, _, _, _, _, _, _, zz (owd (enS τ (8 * pt (τ 1) d 0 + c) (32 * m + i))), _)
    rw [en_owd hsn]; rfl
-- the reference wipes what is wiped already
theorem cr_wipe {C : Nat → Nat} {S1 S2 S3 : Nat → Prop} {x1 x2 x3 : Int32} {Y D W1 R O : AR} {mv : Int32} {A T W K : Nat → Nat} (i18 : i < 18) (hz : ∀ f, 1 ≤ f → f < 5 → T (5 * i + f) = 0) : ∀ (r f n : Nat), f + r = 5 → r < n → 1 ≤ f → s_R_create_111 F n x1 x2 x3 (nI i) (nI f) Y D (zz (rM A T W)) W1 (zz K) R O (zz C) (bz S1) (bz S2) (bz S3) mv = (if x3 = 0 then s_R_create_170 F x1 x2 (nI i) Y D (zz (rM A T W)) W1 (zz K) R O (zz C) (bz S1) (bz S2) (bz S3) mv else bd (s_R_blockFrom F (zz (rM A T W)) (nI i / nI 6)) (fun r146 => bd (s_R_take F r146 (zz (rM A T W)) (zz K)) (fun ⟨mem_154, fresh_154⟩ => bd (s_R_at (nI i) (nI 2)) (fun r164 => ga 1080 r164 (s_R_create_170 F x1 x2 (nI i) Y D (upd mem_154 r164.toNatClampNeg r146) W1 fresh_154 R O (zz C) (bz S1) (bz S2) (bz S3) mv))))) := by
  intro r
  induction r with
  | zero =>
    intro f n h hn h1
    obtain ⟨n, rfl⟩ : ∃ n', n = n' + 1 := ⟨n - 1, by omega⟩
    have : f = 5 := by omega
    subst this
    unfold s_R_create_111
    rw [if_pos (nI_le (Nat.le_refl _) (by omega))]
  | succ r ih =>
    intro f n h hn h1
    obtain ⟨n, rfl⟩ : ∃ n', n = n' + 1 := ⟨n - 1, by omega⟩
    unfold s_R_create_111
    rw [if_neg (nI_ge (by omega) (by omega)), bd_e (cf_at i18 (by omega)), ga_e _ rfl (by omega) (by decide), nI_clamp (by omega), zz_up, up_t i18 (by omega), show up T (5 * i + f) 0 = T from ?_, nI_add]
    · exact ih (f + 1) n (by omega) (by omega) (by omega)
    · funext k
      by_cases e : k = 5 * i + f
      · rw [e, up_s, hz f h1 (by omega)]
      · rw [up_n e]
end CE
