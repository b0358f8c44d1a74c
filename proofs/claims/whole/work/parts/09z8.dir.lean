-- write-back of a directory's block: the loop over its cells
def P3 (σ : St) : Prop := (∀ d, d < 18 → kd (σ 1) d = 2 → kd (σ 4) d = 2 ∧ pt (σ 4) d 0 = pt (σ 1) d 0) ∧ (∀ d c, d < 18 → c < 8 → kd (σ 1) d = 2 → pt (σ 1) d 0 ≠ 0 → σ 2 (8 * pt (σ 1) d 0 + c) ≠ 0 → sn σ (8 * pt (σ 1) d 0 + c) = σ 2 (8 * pt (σ 1) d 0 + c))
noncomputable def lv (σ : St) : Nat → Nat := fun i => pif (0 < i ∧ i < 18 ∧ kd (σ 1) i ≠ 0 ∧ lk (σ 1) i = 0) 1 (σ 9 i)
def LPw (s : St) (b c : Nat) (τ : St) : Prop := (∀ k, k ≠ 1 → k ≠ 5 → τ k = s k) ∧ (∀ m, m % 5 ≠ 1 → τ 1 m = s 1 m) ∧ (∀ q, (q / 8 ≠ b ∨ c ≤ q % 8) → τ 5 q = s 5 q) ∧ (∀ q, q / 8 = b → τ 5 q = s 2 q ∨ (τ 5 q = s 5 q ∧ (q % 8 < c → (s 2 q ≠ 0 → Ea s q) ∧ (s 2 q = 0 → ¬ P3 s)))) ∧ ((∀ q, q / 8 = b → s 2 q = 0 → τ 5 q = s 5 q) → τ 1 = s 1)
section DL
variable {n F : Nat} {s τ : St} {b c : Nat}
theorem LP_0 : LPw s b 0 s := ⟨fun _ _ _ => rfl, fun _ _ => rfl, fun _ _ => rfl, fun _ _ => Or.inr ⟨rfl, fun z => absurd z (Nat.not_lt_zero _)⟩, fun _ => rfl⟩
theorem LP_skip (hc : c < 8) (hL : LPw s b c τ) (h : τ 5 (8 * b + c) = s 2 (8 * b + c) ∨ ((s 2 (8 * b + c) ≠ 0 → Ea s (8 * b + c)) ∧ (s 2 (8 * b + c) = 0 → ¬ P3 s))) : LPw s b (c + 1) τ := by
  obtain ⟨l1, l2, l3, l4, l5⟩ := hL
  refine ⟨l1, l2, fun q z => l3 q (z.imp_right (fun y => by omega)), fun q hq => ?_, l5⟩
  by_cases e : q = 8 * b + c
  · rw [e]
    rcases h with h | h
    · exact Or.inl h
    · exact Or.inr ⟨l3 _ (Or.inr (by omega)), fun _ => h⟩
  · rcases l4 q hq with z | ⟨z, y⟩
    · exact Or.inl z
    · exact Or.inr ⟨z, fun w => y (by omega)⟩
theorem LP_wr {e : Nat} (hc : c < 8) (hL : LPw s b c τ) (he : s 2 (8 * b + c) = e) (hz : e = 0 → τ 5 (8 * b + c) ≠ 0) : LPw s b (c + 1) (wrS τ (8 * b + c) e) := by
  obtain ⟨l1, l2, l3, l4, l5⟩ := hL
  have w5 : ∀ q, q ≠ 8 * b + c → wrS τ (8 * b + c) e 5 q = τ 5 q := fun q z => up_n z
  have w5' : wrS τ (8 * b + c) e 5 (8 * b + c) = e := up_s
  refine ⟨fun k h1 h5 => ?_, fun m hm => by rw [wr_1 hm]; exact l2 m hm, fun q z => ?_, fun q hq => ?_, fun hh => ?_⟩
  · show (if k = 1 then _ else if k = 5 then _ else τ k) = _
    rw [if_neg h1, if_neg h5]; exact l1 k h1 h5
  · rw [w5 q (by omega)]; exact l3 q (z.imp_right (fun y => by omega))
  · by_cases z : q = 8 * b + c
    · left; rw [z, w5']; exact he.symm
    · rw [w5 q z]
      rcases l4 q hq with y | ⟨y, w⟩
      · exact Or.inl y
      · exact Or.inr ⟨y, fun v => w (by omega)⟩
  · by_cases z : e = 0
    · have := hh (8 * b + c) (by omega) (he.trans z)
      rw [w5', z, ← l3 _ (Or.inr (by omega))] at this
      exact absurd this.symm (hz z)
    · show (if e = 0 then _ else τ 1) = _
      rw [if_neg z]
      refine l5 (fun q hq h0 => ?_)
      have y : q ≠ 8 * b + c := fun y => z (by rw [y] at h0; rw [← he]; exact h0)
      rw [← w5 q y]; exact hh q hq h0
theorem LP_Ea (hL : LPw s b c τ) {q : Nat} : Ea τ q ↔ Ea s q := by
  have e2 := hL.1 2 (by decide) (by decide)
  have e3 := hL.1 3 (by decide) (by decide)
  have e4 := hL.1 4 (by decide) (by decide)
  have e7 := hL.1 7 (by decide) (by decide)
  have ek : ∀ i, kd (τ 1) i = kd (s 1) i := fun i => hL.2.1 (5 * i) (by omega)
  unfold Ea yb
  rw [e2, e3, e4, e7, ek]
theorem LP_P3 (hL : LPw s b c τ) (hV : VE (τ 1) (τ 2) z1) {q : Nat} (h0 : s 2 q = 0) (hP : P3 s) : ¬ Lsw τ (τ 1) q := by
  have e2 := hL.1 2 (by decide) (by decide)
  have e4 := hL.1 4 (by decide) (by decide)
  have e6 := hL.1 6 (by decide) (by decide)
  have ek : ∀ i, kd (τ 1) i = kd (s 1) i := fun i => hL.2.1 (5 * i) (by omega)
  have ep : ∀ i k, k < 3 → pt (τ 1) i k = pt (s 1) i k := fun i k hk => hL.2.1 (5 * i + 2 + k) (by omega)
  rintro ⟨i, hi, a, -, d⟩
  refine d (Tr_mono (E := Ed (τ 1) (τ 2) z1) ?_ a)
  rintro x y tx ⟨c', hc', f1, f2⟩
  have hh : kd (τ 1) x = 2 ∧ pt (τ 1) x 0 ≠ 0 := by
    refine Classical.byContradiction fun z => f1 ?_
    unfold en; rw [if_neg (fun y => z ⟨y.1, y.2.1⟩)]
  rw [en_m hh.1 hh.2, e2, ep x 0 (by omega)] at f1 f2
  rw [ek, ep x 0 (by omega)] at hh
  have hx := Tr_lt hV (show (0 : Nat) < 18 by omega) tx
  refine ⟨c', hc', ?_⟩
  obtain ⟨g1, g2⟩ := hP.1 x hx hh.1
  have g3 := hP.2 x c' hx hc' hh.1 hh.2 f1
  have g6 : s 6 (pt (s 1) x 0) = 0 := by
    refine Classical.byContradiction fun z => f1 ?_
    rw [← g3]; unfold sn; rw [show (8 * pt (s 1) x 0 + c') / 8 = pt (s 1) x 0 by omega, if_neg z]
  have g5 : s 5 (8 * pt (s 1) x 0 + c') = s 2 (8 * pt (s 1) x 0 + c') := by
    rw [← g3]; unfold sn; rw [show (8 * pt (s 1) x 0 + c') / 8 = pt (s 1) x 0 by omega, if_pos g6]
  have w : up (τ 5) q 0 (8 * pt (s 1) x 0 + c') = s 2 (8 * pt (s 1) x 0 + c') := by
    rw [up_n (fun z => f1 (by rw [z]; exact h0))]
    by_cases zb : (8 * pt (s 1) x 0 + c') / 8 = b
    · rcases hL.2.2.2.1 _ zb with z | ⟨z, -⟩
      · exact z
      · rw [z]; exact g5
    · rw [hL.2.2.1 _ (Or.inl zb)]; exact g5
  have v : en (τ 4) (up (τ 5) q 0) (τ 6) x c' = s 2 (8 * pt (s 1) x 0 + c') := by
    unfold en
    rw [e4, e6, g2, if_pos ⟨g1, hh.2, g6⟩]; exact w
  rw [v]; exact ⟨f1, f2⟩
theorem lv_wr0 {q i0 : Nat} (h : Gdw n τ) (hi : sn τ q % 32 = i0) (hk : kd (τ 1) i0 ≠ 0) (h0 : 0 < i0) (h18 : i0 < 18) (hl : 0 < lk (τ 1) i0) : (if lk (τ 1) i0 = 1 then up (lv τ) i0 1 else lv τ) = lv (wrS τ q 0) := by
  funext j
  have eR : lv (wrS τ q 0) j = pif (0 < j ∧ j < 18 ∧ kd (τ 1) j ≠ 0 ∧ (if j = i0 then lk (τ 1) j - 1 else lk (τ 1) j) = 0) 1 (τ 9 j) := by
    show pif (0 < j ∧ j < 18 ∧ kd (wrS τ q 0 1) j ≠ 0 ∧ lk (wrS τ q 0 1) j = 0) 1 (τ 9 j) = _
    rw [wr_kd, wr_lk, hi]
    by_cases e : j = i0
    · rw [if_pos (c := 0 = 0 ∧ j = i0) ⟨rfl, e⟩, if_pos e]
    · rw [if_neg (c := 0 = 0 ∧ j = i0) (fun z => e z.2), if_neg e]
  rw [eR]
  by_cases e : j = i0
  · subst e
    rw [if_pos (c := j = j) rfl]
    by_cases l : lk (τ 1) j = 1
    · rw [if_pos l, up_s, pif_t ⟨h0, h18, hk, by omega⟩]
    · rw [if_neg l, pif_f (P := 0 < j ∧ j < 18 ∧ kd (τ 1) j ≠ 0 ∧ lk (τ 1) j - 1 = 0) (fun z => by have := z.2.2.2; omega)]
      show pif _ 1 _ = _
      rw [pif_f (fun z => by have := z.2.2.2; omega)]
  · rw [if_neg (c := j = i0) e]
    by_cases l : lk (τ 1) i0 = 1
    · rw [if_pos l, up_n e]; rfl
    · rw [if_neg l]; rfl
theorem lv_wr1 {q e : Nat} (he : e ≠ 0) : lv (wrS τ q e) = lv τ := by
  funext j
  show pif (0 < j ∧ j < 18 ∧ kd (wrS τ q e 1) j ≠ 0 ∧ lk (wrS τ q e 1) j = 0) 1 (τ 9 j) = _
  rw [wr_kd, wr_lk, if_neg (fun z => he z.1)]; rfl
theorem dl (hn : n ≤ 512) (hF : 300 < F) {d : Nat} (hb : isD b) (h6 : s 6 b = 0) (hd : d < 18) (h2 : kd (s 1) d = 2) (hp : pt (s 1) d 0 = b) : ∀ (r c m m' : Nat) (τ : St) (x : Nat) (C : Nat → Nat) (S1 S2 S3 : Nat → Prop) (qm qd : AR), c + r = 8 → r < m → r < m' → LPw s b c τ → Gdw n τ →
    ∃ (τ' : St) (y : Nat) (C' : Nat → Nat) (S1' S2' S3' : Nat → Prop) (qm' qd' : AR), LPw s b 8 τ' ∧ Gdw n τ' ∧
    s_V_writeDirectory_32 F (zz (τ 2)) (zz z1) (zz (τ 3)) (zz (τ 4)) (zz (τ 7)) m (nI b) (nI x) (nI c) (zz (τ 1)) qm (zz (τ 5)) (zz (τ 6)) qd (zz (lv τ)) = some (nI y, zz (τ' 1), qm', zz (τ' 5), zz (τ' 6), qd', zz (lv τ')) ∧
    s_R_flushEntries_46 F (bz (yb τ)) m' (nI b) (nI x) (nI c) (zz (GB τ 8)) (zz (rM (GB τ 0) (GB τ 1) (τ 2))) (zz (rM (τ 3) (τ 4) (τ 5))) (zz (τ 6)) (bz (fun i => GB τ 9 i = 2)) (zz (owd (GB τ))) (zz C) (bz S1) (bz S2) (bz S3) = some (nI y, zz (GB τ' 8), zz (rM (GB τ' 0) (GB τ' 1) (τ' 2)), zz (rM (τ' 3) (τ' 4) (τ' 5)), zz (τ' 6), bz (fun i => GB τ' 9 i = 2), zz (owd (GB τ')), zz C', bz S1', bz S2', bz S3') := by
  have hb36 := hb.1
  have hb2 := hb.2
  intro r
  induction r with
  | zero =>
    intro c m m' τ x C S1 S2 S3 qm qd hc hm hm' hL hG
    obtain ⟨m, rfl⟩ : ∃ q, m = q + 1 := ⟨m - 1, by omega⟩
    obtain ⟨m', rfl⟩ : ∃ q, m' = q + 1 := ⟨m' - 1, by omega⟩
    have e8 : c = 8 := by omega
    subst e8
    refine ⟨τ, x, C, S1, S2, S3, qm, qd, hL, hG, ?_, ?_⟩
    · unfold s_V_writeDirectory_32
      rw [if_pos (nI_le (by omega) (by omega))]
    · unfold s_R_flushEntries_46
      rw [if_pos (nI_le (by omega) (by omega))]
  | succ r ih =>
    intro c m m' τ x C S1 S2 S3 qm qd hc hm hm' hL hG
    obtain ⟨m, rfl⟩ : ∃ q, m = q + 1 := ⟨m - 1, by omega⟩
    obtain ⟨m', rfl⟩ : ∃ q, m' = q + 1 := ⟨m' - 1, by omega⟩
    have c8 : c < 8 := by omega
    have h := hG.1
    have h5 := Inw_V5 h
    have hn1 : n ≤ 1000 := by omega
    have e2 := hL.1 2 (by decide) (by decide)
    have e6 : τ 6 b = 0 := by rw [hL.1 6 (by decide) (by decide)]; exact h6
    have k2 : kd (τ 1) d = 2 := (hL.2.1 (5 * d) (by omega)).trans h2
    have kp : pt (τ 1) d 0 = b := (hL.2.1 (5 * d + 2 + 0) (by omega)).trans hp
    have b0 : b ≠ 0 := by intro z; rw [z] at hb2; omega
    have hD : DB τ b := ⟨b0, Or.inr ⟨d, hd, k2, kp⟩⟩
    have q8 : (8 * b + c) / 8 = b := by omega
    have hq : 8 * b + c < 288 := by omega
    have hDq : DB τ ((8 * b + c) / 8) := by rw [q8]; exact hD
    have e6q : τ 6 ((8 * b + c) / 8) = 0 := by rw [q8]; exact e6
    have es : sn τ (8 * b + c) = τ 5 (8 * b + c) := by unfold sn; rw [if_pos e6q]
    have bm : τ 2 (8 * b + c) < 2 ^ 31 := by
      by_cases z : τ 2 (8 * b + c) = 0
      · omega
      · have := (Inw_V11 h _ hq hDq z).1.2.1; omega
    have bd5 : τ 5 (8 * b + c) < 2 ^ 31 := by
      rw [← es]
      by_cases z : sn τ (8 * b + c) = 0
      · omega
      · have := (Inw_V12 h _ hq hDq z).1.2.1; omega
    have hDG : DB (GB τ) b := (Gd_DB hG hb36).mpr hD
    have hDGq : DB (GB τ) ((8 * b + c) / 8) := by rw [q8]; exact hDG
    have hI := Gd_Inv hn hG
    -- writing a cell
    have wr : ∀ e, Wz τ (8 * b + c) e → LPw s b (c + 1) (wrS τ (8 * b + c) e) → ∃ C2, s_R_settle F (zz (rM (τ 3) (τ 4) (up (τ 5) (8 * b + c) e))) (zz (τ 6)) (zz (GB τ 8)) (zz (rM (GB τ 0) (GB τ 1) (τ 2))) (bz (fun i => GB τ 9 i = 2)) (zz (owd (GB τ))) (zz C) = some (zz (GB (wrS τ (8 * b + c) e) 8), zz (rM (GB (wrS τ (8 * b + c) e) 0) (GB (wrS τ (8 * b + c) e) 1) (τ 2)), bz (fun i => GB (wrS τ (8 * b + c) e) 9 i = 2), zz (owd (GB (wrS τ (8 * b + c) e))), zz C2) ∧ Gdw n (wrS τ (8 * b + c) e) := by
      intro e hW _
      obtain ⟨g1, g2, g3⟩ := GBw hn hG hq hDq e6q hW
      obtain ⟨C2, g4⟩ := cf_settleW (C := C) hF hI hq hDGq e6q (Wz_GB h hq hDq hW)
      rw [g1] at g4
      exact ⟨C2, g4, g3⟩
    unfold s_V_writeDirectory_32 s_R_flushEntries_46
    rw [if_neg (nI_ge (by omega) (by omega)), if_neg (nI_ge (by omega) (by omega)), bd_e (cf_word' hb36 c8 (z1_le _ hb36)), bd_e (cf_word' hb36 c8 (h5.2.1 b hb36).1), show sdw (τ 2) z1 (8 * b + c) = τ 2 (8 * b + c) from if_pos rfl, ← sn_sdw, es, rd_w hb c8, rd_w hb c8]
    by_cases a : τ 2 (8 * b + c) = τ 5 (8 * b + c)
    · -- alike
      rw [if_pos (by rw [a]), if_pos (by rw [a]), nI_add]
      exact ih (c + 1) m m' τ x C S1 S2 S3 qm qd (by omega) (by omega) (by omega) (LP_skip c8 hL (Or.inl (by rw [← a, e2]))) hG
    · rw [if_neg (fun z => a ((nI_eq bm bd5).mp z)), if_neg (fun z => a ((nI_eq bm bd5).mp z))]
      by_cases z0 : τ 2 (8 * b + c) = 0
      · -- memory has no entry here
        have s0 : s 2 (8 * b + c) = 0 := by rw [← e2]; exact z0
        have d0 : sn τ (8 * b + c) ≠ 0 := by rw [es]; intro w; exact a (by rw [z0, w])
        obtain ⟨qm1, qd1, eV⟩ := cf_mustStay (F := F) qm qd h hn1 (by omega) hb36 c8 e6
        obtain ⟨T1, T2, T3, eR⟩ := cf_loses (F := F) (M0 := GB τ 0) S1 S2 S3 h hn1 (by omega) hb c8 (Inv_VT1 hI) (VEm hI.2.1)
        have eL : pif (Lsw τ (GB τ 1) (8 * b + c)) (nI 1) (nI 0) = pif (Lsw τ (τ 1) (8 * b + c)) (nI 1) (nI 0) := by
          refine pif_congr ⟨fun ⟨i, a1, a2, a3⟩ => ⟨i, a1, (GB_tree h (Gd_Vx hG)).mp a2, a3⟩, fun ⟨i, a1, a2, a3⟩ => ⟨i, a1, (GB_tree h (Gd_Vx hG)).mpr a2, a3⟩⟩
        rw [eL] at eR
        rw [z0, if_pos nI_0, if_pos nI_0, bd_e eV, bd_e eR]
        by_cases L : Lsw τ (τ 1) (8 * b + c)
        · rw [pif_t L]
          show ∃ τ' y C' S1' S2' S3' qm' qd', _ ∧ _ ∧ (if (nI 1 : Int32) = 0 then _ else _) = _ ∧ (if (nI 1 : Int32) = 0 then _ else _) = _
          rw [if_neg nn1, if_neg nn1]
          unfold s_V_writeDirectory_96 s_R_flushEntries_107
          rw [nI_add, nI_add]
          exact ih (c + 1) m m' τ (x + 1) C T1 T2 T3 qm1 qd1 (by omega) (by omega) (by omega) (LP_skip c8 hL (Or.inr ⟨fun w => absurd s0 w, fun _ w => LP_P3 hL (VEm h) s0 w L⟩)) hG
        · rw [pif_f L]
          show ∃ τ' y C' S1' S2' S3' qm' qd', _ ∧ _ ∧ (if (nI 0 : Int32) = 0 then _ else _) = _ ∧ (if (nI 0 : Int32) = 0 then _ else _) = _
          rw [if_pos nI_0, if_pos nI_0]
          have hW : Wz τ (8 * b + c) 0 := ⟨z0, Or.inl ⟨rfl, d0⟩⟩
          have hL' := LP_wr (τ := τ) (e := 0) c8 hL s0 (fun _ => by rw [← es]; exact d0)
          obtain ⟨C2, eS, g3⟩ := wr 0 hW hL'
          obtain ⟨y1, y2, -⟩ := Inw_V12 h _ hq hDq d0
          rw [es] at y1 y2
          have i0 := y1.2.2.1
          have i18 := y1.2.2.2
          have o2 := y1.2.1
          have hl : 0 < lk (τ 1) (τ 5 (8 * b + c) % 32) := by
            have u := Inw_V15 h _ i0 i18 y2
            have : 0 < Un τ (τ 5 (8 * b + c) % 32) := cn_pos.mpr ⟨8 * b + c, hq, hDq, Or.inr ⟨d0, by rw [es]⟩⟩
            omega
          have hlb := ((Inw_VT1 h hn1) _ i18).2.1
          obtain ⟨τ', y, C', S1', S2', S3', qm', qd', p1, p2, p3, p4⟩ := ih (c + 1) m m' (wrS τ (8 * b + c) 0) x C2 T1 T2 T3 qm1 qd1 (by omega) (by omega) (by omega) hL' g3
          refine ⟨τ', y, C', S1', S2', S3', qm', qd', p1, p2, ?_, ?_⟩
          · unfold s_V_writeDirectory_102
            rw [bd_e (cf_setWord hb36 c8), if_pos nI_0, pk_rem (by omega) (by decide) (by decide), bd_e (cf_lowerLinks i0 i18 hl hlb), nI_add]
            refine Eq.trans ?_ p3
            rw [← lv_wr0 (q := 8 * b + c) (i0 := τ 5 (8 * b + c) % 32) hG (by rw [es]) y2 i0 i18 hl]
            show s_V_writeDirectory_32 F (zz (τ 2)) (zz z1) (zz (τ 3)) (zz (τ 4)) (zz (τ 7)) m (nI b) (nI x) (nI (c + 1)) (zz (up (τ 1) (5 * (τ 5 (8 * b + c) % 32) + 1) (lk (τ 1) (τ 5 (8 * b + c) % 32) - 1))) qm1 (zz (up (τ 5) (8 * b + c) 0)) (zz (τ 6)) qd1 _ = s_V_writeDirectory_32 F (zz (τ 2)) (zz z1) (zz (τ 3)) (zz (τ 4)) (zz (τ 7)) m (nI b) (nI x) (nI (c + 1)) (zz (up (τ 1) (5 * (sn τ (8 * b + c) % 32) + 1) (lk (τ 1) (sn τ (8 * b + c) % 32) - 1))) qm1 (zz (up (τ 5) (8 * b + c) 0)) (zz (τ 6)) qd1 _
            rw [es]
          · unfold s_R_flushEntries_113
            rw [ix30, ga_e _ rfl (by omega) (by decide), nI_clamp (by omega), zz_up, up_w hb c8, bd_e eS, nI_add]
            exact p4
      · -- an entry of memory
        have zs : sn τ (8 * b + c) = 0 := Classical.byContradiction fun w => a (by rw [← es]; exact Inw_V13 h _ hq hDq z0 w)
        have eV := cf_mustWait h hn1 hb36 c8 hD z0
        have eR := cf_early hI.2.1 hn1 hb c8 hDG z0
        have eR' : s_R_early (bz (yb τ)) (zz (rM (GB τ 0) (GB τ 1) (τ 2))) (zz (rM (τ 3) (τ 4) (τ 5))) (nI b) (nI c) = some (pif (Ea τ (8 * b + c)) (nI 1) (nI 0)) := by
          rw [← pif_congr (Ea_GB h hq hDq z0)]; exact eR
        rw [if_neg (fun w => z0 ((nI0 bm).mp w)), if_neg (fun w => z0 ((nI0 bm).mp w)), bd_e eV, bd_e eR']
        by_cases L : Ea τ (8 * b + c)
        · rw [pif_t L, if_neg nn1, if_neg nn1]
          unfold s_V_writeDirectory_96 s_R_flushEntries_107
          rw [nI_add, nI_add]
          exact ih (c + 1) m m' τ (x + 1) C S1 S2 S3 qm qd (by omega) (by omega) (by omega) (LP_skip c8 hL (Or.inr ⟨fun _ => (LP_Ea hL).mp L, fun w => absurd (by rw [e2]; exact w) z0⟩)) hG
        · rw [pif_f L, if_pos nI_0, if_pos nI_0]
          have hW : Wz τ (8 * b + c) (τ 2 (8 * b + c)) := ⟨rfl, Or.inr ⟨z0, zs, L⟩⟩
          have hL' := LP_wr (τ := τ) (e := τ 2 (8 * b + c)) c8 hL (by rw [e2]) (fun w => absurd w z0)
          obtain ⟨C2, eS, g3⟩ := wr _ hW hL'
          obtain ⟨τ', y, C', S1', S2', S3', qm', qd', p1, p2, p3, p4⟩ := ih (c + 1) m m' (wrS τ (8 * b + c) (τ 2 (8 * b + c))) x C2 S1 S2 S3 qm qd (by omega) (by omega) (by omega) hL' g3
          refine ⟨τ', y, C', S1', S2', S3', qm', qd', p1, p2, ?_, ?_⟩
          · unfold s_V_writeDirectory_102
            rw [bd_e (cf_setWord hb36 c8), if_neg (fun w => z0 ((nI0 bm).mp w)), nI_add]
            refine Eq.trans ?_ p3
            rw [lv_wr1 z0]
            have e1 : wrS τ (8 * b + c) (τ 2 (8 * b + c)) 1 = τ 1 := by
              show (if τ 2 (8 * b + c) = 0 then _ else τ 1) = _
              rw [if_neg z0]
            rw [e1]; rfl
          · unfold s_R_flushEntries_113
            rw [ix30, ga_e _ rfl (by omega) (by decide), nI_clamp (by omega), zz_up, up_w hb c8, bd_e eS, nI_add]
            exact p4
end DL
