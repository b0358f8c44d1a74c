-- the reference takes an entry away
theorem eT_0 {σ : St} : rT σ (fun _ => False) (fun j => σ 1 (5 * j + 1)) = σ 1 := by
  funext q
  unfold rT
  by_cases hq : q % 5 = 1
  · rw [if_pos hq]
    show σ 1 (5 * (q / 5) + 1) = σ 1 q
    rw [show 5 * (q / 5) + 1 = q by omega]
  · rw [if_neg hq, pif_f (fun z => z)]
theorem cf_settleO {n Fu : Nat} {σ : St} {C O : Nat → Nat} (hFu : 300 < Fu) (hn : n ≤ 600) (h : Inw n σ) (h9 : V9 σ) (hL : VL (σ 1)) (hO : ∀ j, j < 18 → O j ≤ cw σ (fun _ => False) j) (hO2 : ∀ j, 18 ≤ j → O j = 0) : ∃ C', s_R_settle Fu (zz (rM (σ 3) (σ 4) (σ 5))) (zz (σ 6)) (zz (σ 8)) (zz (rM (σ 0) (σ 1) (σ 2))) (bz (fun i => σ 9 i = 2)) (zz O) (zz C) = some (zz (GB σ 8), zz (rM (GB σ 0) (GB σ 1) (σ 2)), bz (fun i => GB σ 9 i = 2), zz (owd (GB σ)), zz C') := by
  have hS : SS σ (fun _ => False) (fun _ => False) (fun _ => False) (fun _ => 0) (fun j => σ 1 (5 * j + 1)) O := by
    refine ⟨GI_0, fun j hj => ?_, fun j hj => Or.inr ⟨rfl, hO j hj⟩, fun j _ => by show (0 : Nat) < 300; omega, fun j _ q => absurd q (Nat.lt_irrefl _), fun j q => ?_, fun j hj => ⟨rfl, hO2 j hj⟩⟩
    · rw [UF_F]; rfl
    · have := q.2.2.2
      rw [UF_F] at this
      have := hL j q.1 q.2.1 q.2.2.1
      omega
  obtain ⟨C', e⟩ := cf_settle (C := C) hFu hn h h9 hS
  refine ⟨C', ?_⟩
  have eS : bz (rs σ (fun _ => False) (fun _ => False)) = bz (fun i => σ 9 i = 2) := bz_congr (fun i => ⟨fun q => q.2.resolve_left (fun z => z), fun q => ⟨fun z => z, Or.inr q⟩⟩)
  rw [eT_0, eS, app_0, app_8] at e
  exact e
theorem owd_18 {σ : St} {j : Nat} (h : 18 ≤ j) : owd σ j = 0 := by unfold owd; rw [if_neg (by omega)]
section LV
variable {n F : Nat} {σ : St} {d c : Nat}
theorem cf_leave {C : Nat → Nat} (hF : 300 < F) (hn : n ≤ 512) (h : Inw n σ) (hI : Ins σ) (hd : d < 18) (h2 : kd (σ 1) d = 2) (hp : pt (σ 1) d 0 ≠ 0) (hc : c < 8) (h0 : σ 2 (8 * pt (σ 1) d 0 + c) ≠ 0) (hE : kd (σ 1) (σ 2 (8 * pt (σ 1) d 0 + c) % 32) = 2 → (∀ c', c' < 8 → σ 2 (8 * pt (σ 1) (σ 2 (8 * pt (σ 1) d 0 + c) % 32) 0 + c') = 0) ∨ ∃ p, p ≠ 8 * pt (σ 1) d 0 + c ∧ p < 288 ∧ DB σ (p / 8) ∧ nmM σ (σ 2 (8 * pt (σ 1) d 0 + c) % 32) p) :
    let τ := rmS σ (8 * pt (σ 1) d 0 + c) (if sn σ (8 * pt (σ 1) d 0 + c) = 0 then 1 else 0)
    ∃ C', s_R_leave F (zz (rM (σ 3) (σ 4) (σ 5))) (zz (σ 6)) (nI d) (nI c) (bz (yb σ)) (zz (σ 8)) (zz (rM (σ 0) (σ 1) (σ 2))) (bz (fun i => σ 9 i = 2)) (zz (owd σ)) (zz C) = some (bz (yb τ), zz (GB τ 8), zz (rM (GB τ 0) (GB τ 1) (τ 2)), bz (fun i => GB τ 9 i = 2), zz (owd (GB τ)), zz C') := by
  intro τ
  have hT := Inw_VT1 h (show n ≤ 1000 by omega)
  have hD := isD_p hT hd (k := 0) (by omega) hp
  have hb := hD.1
  have e8 : (8 * pt (σ 1) d 0 + c) / 8 = pt (σ 1) d 0 := by omega
  have hDB : DB σ ((8 * pt (σ 1) d 0 + c) / 8) := by rw [e8]; exact DBm hd h2 hp
  have hq : 8 * pt (σ 1) d 0 + c < 288 := by omega
  obtain ⟨w1, w2, w3, w4, w5⟩ := rm_Inw (δ := if sn σ (8 * pt (σ 1) d 0 + c) = 0 then 1 else 0) h hI hq hDB h0 rfl hE
  obtain ⟨ok1, ekd, eim, -, -⟩ := Inw_V11 h _ hq hDB h0
  have i0 := ok1.2.2.1
  have i18 := ok1.2.2.2
  have o2 := ok1.2.1
  have hsl : sn σ (8 * pt (σ 1) d 0 + c) < 2 ^ 31 := by
    by_cases z : sn σ (8 * pt (σ 1) d 0 + c) = 0
    · omega
    · have := (Inw_V12 h _ hq hDB z).1.2.1; omega
  have ey : bz (fun j => yb σ j ∧ j ≠ 8 * pt (σ 1) d 0 + c) = bz (yb τ) := bz_congr (fun j => (rm_yb (Inw_V5 h) hq).symm)
  have e1' : σ 1 (5 * d + 2) = pt (σ 1) d 0 := rfl
  unfold s_R_leave s_R_leave_66
  rw [bd_e (cf_at hd (by omega)), rd_t hd (by omega), e1', rd_w hD hc, show nI 30 * nI (pt (σ 1) d 0) + nI c = nI (30 * pt (σ 1) d 0 + c) by rw [pk_mul, nI_add], show nI 8 * nI (pt (σ 1) d 0) + nI c = nI (8 * pt (σ 1) d 0 + c) by rw [pk_mul, nI_add], ga_e _ rfl (by omega) (by decide), ga_e _ rfl hq (by decide), bd_e (cf_seen' hD hc ((Inw_V5 h).2.1 _ hb).1), ← sn_sdw, nI_clamp (by omega), nI_clamp (by omega), nar0, bz_0, ey, zz_up, up_w hD hc]
  by_cases hs : sn σ (8 * pt (σ 1) d 0 + c) = 0
  · have hτ : τ = rmS σ (8 * pt (σ 1) d 0 + c) 1 := by show rmS _ _ (if _ then _ else _) = _; rw [if_pos hs]
    have hl := hI.1 _ i0 i18 ekd
    have hlb := (hT _ i18).2.1
    have hkk : kd (σ 1) (σ 2 (8 * pt (σ 1) d 0 + c) % 32) = 1 ∨ kd (σ 1) (σ 2 (8 * pt (σ 1) d 0 + c) % 32) = 2 := by have := VT_k hT i18; omega
    rw [if_pos (by rw [hs]; rfl), pk_rem (by omega) (by decide) (by decide), bd_e (cf_fall (by omega) hT i18 hkk hl)]
    by_cases e1 : lk (σ 1) (σ 2 (8 * pt (σ 1) d 0 + c) % 32) = 1
    · rw [if_pos e1]
      have hS : SS τ (fun j => False ∨ j = σ 2 (8 * pt (σ 1) d 0 + c) % 32) (fun _ => False) (fun _ => False) (fun _ => 0) (fun j => τ 1 (5 * j + 1)) (owd σ) := by
        have hfl : fl τ (fun _ => False) (σ 2 (8 * pt (σ 1) d 0 + c) % 32) := ⟨i0, i18, by rw [hτ, rm_kd]; exact ekd, by rw [hτ, rm_lk, if_pos rfl]; omega⟩
        refine ⟨GI_J GI_0 hfl, fun j hj => by rw [UF_F]; rfl, fun j hj => Or.inr ⟨rfl, by rw [hτ]; exact rm_cw hj⟩, fun j _ => by show (0 : Nat) < 300; omega, fun j _ q => absurd q (Nat.lt_irrefl _), fun j q => Or.inl (Or.inr ?_), fun j hj => ⟨rfl, owd_18 hj⟩⟩
        have a := q.2.2.2
        have b := q.2.2.1
        rw [UF_F, hτ, rm_lk] at a
        rw [hτ, rm_kd] at b
        refine Classical.byContradiction fun z => ?_
        rw [if_neg z] at a
        have := hI.1 j q.1 q.2.1 b
        omega
      obtain ⟨C', g⟩ := cf_settle (C := C) hF (show n ≤ 600 by omega) w1 w2 hS
      refine ⟨C', ?_⟩
      have eM : app τ (fun j => False ∨ j = σ 2 (8 * pt (σ 1) d 0 + c) % 32) (fun _ => False) (fun _ => False) 0 = σ 0 := app_0 (σ := τ)
      have eD : dD (σ 1) (σ 8) (σ 2 (8 * pt (σ 1) d 0 + c) % 32) 0 3 = app τ (fun j => False ∨ j = σ 2 (8 * pt (σ 1) d 0 + c) % 32) (fun _ => False) (fun _ => False) 8 := by
        rw [hτ, rm_app8]
        have := E2 (σ := σ) (J := fun _ => False) (F := fun _ => False) (N := fun _ => False) i18 (fun z => z) hkk h.2.2.1.1 (Inw_V6 h) (fun _ z => z.elim) (fun _ z => z.elim)
        rw [app_8] at this
        rw [← this, ← dD_rT (lf := fun j => σ 1 (5 * j + 1)), eT_0]
      have eTT : up (dT (up (σ 1) (5 * (σ 2 (8 * pt (σ 1) d 0 + c) % 32) + 1) 0) (σ 2 (8 * pt (σ 1) d 0 + c) % 32) 0 3) (5 * (σ 2 (8 * pt (σ 1) d 0 + c) % 32)) 0 = rT τ (fun j => False ∨ j = σ 2 (8 * pt (σ 1) d 0 + c) % 32) (fun j => τ 1 (5 * j + 1)) := by
        rw [hτ, rm_rT]
        have a1 : up (σ 1) (5 * (σ 2 (8 * pt (σ 1) d 0 + c) % 32) + 1) 0 = rT σ (fun _ => False) (up (fun j => σ 1 (5 * j + 1)) (σ 2 (8 * pt (σ 1) d 0 + c) % 32) 0) := by
          rw [← rT_low, eT_0]
        rw [a1, rT_rel]
        have a2 : up (fun j => σ 1 (5 * j + 1)) (σ 2 (8 * pt (σ 1) d 0 + c) % 32) 0 = fun j => rmS σ (8 * pt (σ 1) d 0 + c) 1 1 (5 * j + 1) := by
          funext j
          have := rm_lk (σ := σ) (q := 8 * pt (σ 1) d 0 + c) (δ := 1) (j := j)
          show _ = lk (rmS σ (8 * pt (σ 1) d 0 + c) 1 1) j
          rw [this]
          by_cases e : j = σ 2 (8 * pt (σ 1) d 0 + c) % 32
          · rw [if_pos e, e, up_s]; omega
          · rw [if_neg e, up_n e]
        rw [a2]
      have eS : bz (fun j => σ 9 j = 2 ∨ j = σ 2 (8 * pt (σ 1) d 0 + c) % 32) = bz (rs τ (fun j => False ∨ j = σ 2 (8 * pt (σ 1) d 0 + c) % 32) (fun _ => False)) :=
        bz_congr (fun j => ⟨fun z => ⟨fun y => y, z.elim (fun y => Or.inr (by rw [hτ]; exact y)) (fun y => Or.inl (Or.inr y))⟩, fun z => z.2.elim (fun y => Or.inr (y.resolve_left (fun w => w))) (fun y => Or.inl (by rw [hτ] at y; exact y))⟩)
      have e2 : up (σ 2) (8 * pt (σ 1) d 0 + c) 0 = τ 2 := by rw [hτ]; rfl
      rw [eM] at g
      show bd (s_R_settle F (zz (rM (σ 3) (σ 4) (σ 5))) (zz (σ 6)) (zz (dD (σ 1) (σ 8) (σ 2 (8 * pt (σ 1) d 0 + c) % 32) 0 3)) (zz (rM (σ 0) (up (dT (up (σ 1) (5 * (σ 2 (8 * pt (σ 1) d 0 + c) % 32) + 1) 0) (σ 2 (8 * pt (σ 1) d 0 + c) % 32) 0 3) (5 * (σ 2 (8 * pt (σ 1) d 0 + c) % 32)) 0) (up (σ 2) (8 * pt (σ 1) d 0 + c) 0))) (bz (fun j => σ 9 j = 2 ∨ j = σ 2 (8 * pt (σ 1) d 0 + c) % 32)) (zz (owd σ)) (zz C)) _ = _
      rw [eD, eTT, eS, e2]
      have g' : s_R_settle F (zz (rM (σ 3) (σ 4) (σ 5))) (zz (σ 6)) (zz (app τ (fun j => False ∨ j = σ 2 (8 * pt (σ 1) d 0 + c) % 32) (fun _ => False) (fun _ => False) 8)) (zz (rM (σ 0) (rT τ (fun j => False ∨ j = σ 2 (8 * pt (σ 1) d 0 + c) % 32) (fun j => τ 1 (5 * j + 1))) (τ 2))) (bz (rs τ (fun j => False ∨ j = σ 2 (8 * pt (σ 1) d 0 + c) % 32) (fun _ => False))) (zz (owd σ)) (zz C) = some (zz (GB τ 8), zz (rM (GB τ 0) (GB τ 1) (τ 2)), bz (fun i => GB τ 9 i = 2), zz (owd (GB τ)), zz C') := g
      rw [bd_e g']
    · rw [if_neg e1]
      have hVL : VL (τ 1) := by
        intro j a b c'
        rw [hτ, rm_kd] at c'
        rw [hτ, rm_lk]
        have := hI.1 j a b c'
        by_cases e : j = σ 2 (8 * pt (σ 1) d 0 + c) % 32
        · rw [if_pos e]; rw [← e] at e1; omega
        · rw [if_neg e]; exact this
      obtain ⟨C', g⟩ := cf_settleO (C := C) (O := owd σ) hF (show n ≤ 600 by omega) w1 w2 hVL (fun j hj => rm_cw hj) (fun j hj => owd_18 hj)
      refine ⟨C', ?_⟩
      have e3 : up (σ 1) (5 * (σ 2 (8 * pt (σ 1) d 0 + c) % 32) + 1) (lk (σ 1) (σ 2 (8 * pt (σ 1) d 0 + c) % 32) - 1) = τ 1 := by rw [hτ]; rfl
      show bd (s_R_settle F (zz (rM (σ 3) (σ 4) (σ 5))) (zz (σ 6)) (zz (σ 8)) (zz (rM (σ 0) (up (σ 1) (5 * (σ 2 (8 * pt (σ 1) d 0 + c) % 32) + 1) (lk (σ 1) (σ 2 (8 * pt (σ 1) d 0 + c) % 32) - 1)) (up (σ 2) (8 * pt (σ 1) d 0 + c) 0))) (bz (fun j => σ 9 j = 2)) (zz (owd σ)) (zz C)) _ = _
      rw [e3]
      have g' : s_R_settle F (zz (rM (σ 3) (σ 4) (σ 5))) (zz (σ 6)) (zz (σ 8)) (zz (rM (σ 0) (τ 1) (up (σ 2) (8 * pt (σ 1) d 0 + c) 0))) (bz (fun j => σ 9 j = 2)) (zz (owd σ)) (zz C) = some (zz (GB τ 8), zz (rM (GB τ 0) (GB τ 1) (τ 2)), bz (fun i => GB τ 9 i = 2), zz (owd (GB τ)), zz C') := g
      rw [bd_e g']
  · have hτ : τ = rmS σ (8 * pt (σ 1) d 0 + c) 0 := by show rmS _ _ (if _ then _ else _) = _; rw [if_neg hs]
    have e1 : τ 1 = σ 1 := by rw [hτ]; exact rm_same
    obtain ⟨C', g⟩ := cf_settleO (C := C) (O := owd σ) hF (show n ≤ 600 by omega) w1 w2 (show VL (τ 1) by rw [e1]; exact hI.1) (fun j hj => rm_cw hj) (fun j hj => owd_18 hj)
    refine ⟨C', ?_⟩
    rw [if_neg (fun z => hs ((nI0 hsl).mp z))]
    have g' : s_R_settle F (zz (rM (σ 3) (σ 4) (σ 5))) (zz (σ 6)) (zz (σ 8)) (zz (rM (σ 0) (τ 1) (up (σ 2) (8 * pt (σ 1) d 0 + c) 0))) (bz (fun j => σ 9 j = 2)) (zz (owd σ)) (zz C) = some (zz (GB τ 8), zz (rM (GB τ 0) (GB τ 1) (τ 2)), bz (fun i => GB τ 9 i = 2), zz (owd (GB τ)), zz C') := g
    rw [e1] at g'
    rw [bd_e g']
end LV
