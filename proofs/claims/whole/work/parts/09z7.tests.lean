-- the tests of a directory's write-back, and the reference's giving back behind a cell
section WT
variable {n F : Nat} {σ : St} {q e : Nat}
-- the reference behind a cell
theorem cf_settleW {C : Nat → Nat} (hF : 300 < F) (hI : Inv n σ) (hq : q < 288) (hD : DB σ (q / 8)) (h6q : σ 6 (q / 8) = 0) (hW : Wz σ q e) : ∃ C', s_R_settle F (zz (rM (σ 3) (σ 4) (up (σ 5) q e))) (zz (σ 6)) (zz (σ 8)) (zz (rM (σ 0) (σ 1) (σ 2))) (bz (fun i => σ 9 i = 2)) (zz (owd σ)) (zz C) = some (zz (GB (wrS σ q e) 8), zz (rM (GB (wrS σ q e) 0) (GB (wrS σ q e) 1) (σ 2)), bz (fun i => GB (wrS σ q e) 9 i = 2), zz (owd (GB (wrS σ q e))), zz C') := by
  have w := wr_Gd (Inv_Gd hI) hq hD h6q hW
  have hn : n ≤ 600 := by have := hI.1; omega
  have hS : SS (wrS σ q e) (fun _ => False) (fun _ => False) (fun _ => False) (fun j => if e = 0 ∧ j = sn σ q % 32 then 1 else 0) (fun j => σ 1 (5 * j + 1)) (owd σ) := by
    have key : ∀ j, e = 0 ∧ j = sn σ q % 32 → 0 < j ∧ j < 18 ∧ kd (σ 1) j ≠ 0 ∧ 0 < lk (σ 1) j := by
      rintro j ⟨a, b⟩
      have s0 : sn σ q ≠ 0 := (hW.2.resolve_right (fun w => w.1 a)).2
      obtain ⟨y1, y2, -⟩ := Inw_V12 hI.2.1 q hq hD s0
      rw [← b] at y2
      have j0 : 0 < j := by rw [b]; exact y1.2.2.1
      have j18 : j < 18 := by rw [b]; exact y1.2.2.2
      exact ⟨j0, j18, y2, hI.2.2.1 j j0 j18 y2⟩
    refine ⟨GI_0, fun j hj => ?_, fun j hj => Or.inl ?_, fun j _ => by show (if _ then 1 else 0) < 300; split <;> omega, fun j _ z => ?_, fun j z => Or.inr ?_, fun j hj => ⟨?_, owd_18 hj⟩⟩
    · rw [UF_F]
      show σ 1 (5 * j + 1) = lk (wrS σ q e 1) j - 0 + (if e = 0 ∧ j = sn σ q % 32 then 1 else 0)
      rw [wr_lk]
      by_cases c : e = 0 ∧ j = sn σ q % 32
      · rw [if_pos c, if_pos c]
        have := (key j c).2.2.2
        have : 0 < σ 1 (5 * j + 1) := this
        show σ 1 (5 * j + 1) = σ 1 (5 * j + 1) - 1 - 0 + 1
        omega
      · rw [if_neg c, if_neg c]; rfl
    · show owd σ j = cw (wrS σ q e) (fun _ => False) j + (if e = 0 ∧ j = sn σ q % 32 then 1 else 0)
      rw [owd_cw hj]
      have hnD : ∀ p, p ≠ q → (nmD (wrS σ q e) j p ↔ nmD σ j p) := fun p z => by unfold nmD; rw [wr_sn h6q, if_neg z]
      by_cases c : e = 0 ∧ j = sn σ q % 32
      · rw [if_pos c]
        have s0 : sn σ q ≠ 0 := (hW.2.resolve_right (fun w => w.1 c.1)).2
        refine cn_one (k := q) hq ⟨fun z => z, hD, hW.1.trans c.1, s0, c.2.symm⟩ (fun z => ?_) (fun p _ hp => ?_)
        · have z' := z.2.2.2.1
          rw [wr_sn h6q, if_pos rfl] at z'; exact z' c.1
        · exact and_congr_right' (and_congr wr_DB.symm (and_congr_right' (hnD p hp).symm))
      · rw [if_neg c, Nat.add_zero]
        refine cn_congr (fun p _ => and_congr_right' (and_congr wr_DB.symm (and_congr_right (fun m0 => ?_))))
        by_cases hp : p = q
        · rw [hp] at m0 ⊢
          have e0 : e = 0 := by rw [← hW.1]; exact m0
          refine ⟨fun z => absurd ⟨e0, z.2.symm⟩ c, fun z => ?_⟩
          have z' := z.1
          rw [wr_sn h6q, if_pos rfl] at z'; exact absurd e0 z'
        · exact (hnD p hp).symm
    · have z' : 0 < (if e = 0 ∧ j = sn σ q % 32 then 1 else 0) := z
      by_cases c : e = 0 ∧ j = sn σ q % 32
      · obtain ⟨k1, k2, k3, k4⟩ := key j c
        exact ⟨k1, by rw [wr_kd]; exact k3, fun y => y⟩
      · rw [if_neg c] at z'; omega
    · show 0 < (if e = 0 ∧ j = sn σ q % 32 then 1 else 0)
      obtain ⟨z1, z2, z3, z4⟩ := z
      rw [UF_F, wr_lk] at z4
      rw [wr_kd] at z3
      by_cases c : e = 0 ∧ j = sn σ q % 32
      · rw [if_pos c]; omega
      · rw [if_neg c] at z4; have := hI.2.2.1 j z1 z2 z3; omega
    · show σ 1 (5 * j + 1) = lk (wrS σ q e 1) j
      rw [wr_lk, if_neg]
      intro c; have := (key j c).2.1; omega
  obtain ⟨C', g⟩ := cf_settle (C := C) hF hn w.1 w.2.1 hS
  refine ⟨C', ?_⟩
  have eS : bz (rs (wrS σ q e) (fun _ => False) (fun _ => False)) = bz (fun i => σ 9 i = 2) := bz_congr (fun i => ⟨fun q => q.2.resolve_left (fun z => z), fun q => ⟨fun z => z, Or.inr q⟩⟩)
  have eT : rT (wrS σ q e) (fun _ => False) (fun j => σ 1 (5 * j + 1)) = σ 1 := by
    funext m
    unfold rT
    by_cases hm : m % 5 = 1
    · rw [if_pos hm]
      show σ 1 (5 * (m / 5) + 1) = σ 1 m
      rw [show 5 * (m / 5) + 1 = m by omega]
    · rw [if_neg hm, pif_f (fun z => z), wr_1 hm]
  rw [eT, eS, app_0, app_8] at g
  exact g
-- an entry that must wait
theorem cf_mustWait {b c : Nat} (h : Inw n σ) (hn : n ≤ 1000) (hb : b < 36) (hc : c < 8) (hD : DB σ b) (h0 : σ 2 (8 * b + c) ≠ 0) : s_V_mustWait (zz (σ 1)) (zz (σ 2)) (zz z1) (zz (σ 3)) (zz (σ 4)) (zz (σ 7)) (nI b) (nI c) = some (pif (Ea σ (8 * b + c)) (nI 1) (nI 0)) := by
  have hq : 8 * b + c < 288 := by omega
  have e8 : (8 * b + c) / 8 = b := by omega
  have e8' : (8 * b + c) % 8 = c := by omega
  have h5 := Inw_V5 h
  obtain ⟨ok1, k1, k2, k3, k4⟩ := Inw_V11 h (8 * b + c) hq (by rw [e8]; exact hD) h0
  have i18 := ok1.2.2.2
  have o2 := ok1.2.1
  have b7 := (h5.2.1 b hb).2.1
  have hT4 := Inw_VT4 h hn
  have hT1 := Inw_VT1 h hn
  have b3 : im (σ 3) (σ 2 (8 * b + c) % 32) ≤ 1 := (h5.1 (σ 2 (8 * b + c) % 32 / 6 * 16 + σ 2 (8 * b + c) % 32 % 6) (by omega)).2
  unfold s_V_mustWait s_V_mustWait_61 s_V_mustWait_65
  rw [bd_e (cf_word' hb hc (z1_le _ hb)), show sdw (σ 2) z1 (8 * b + c) = σ 2 (8 * b + c) from if_pos rfl, gr_e b rfl hb (by decide), bd_e (cf_has (by omega)), bt_nI _ b7 c hc, pk_rem (by omega) (by decide) (by decide)]
  have ey : yb σ (8 * b + c) ↔ (σ 7 b).testBit c = true := by
    unfold yb; rw [e8, e8']; exact ⟨fun z => z.2, fun z => ⟨hq, z⟩⟩
  by_cases y : yb σ (8 * b + c)
  · rw [if_pos (ey.mp y), if_neg nn1, pif_t (P := Ea σ (8 * b + c)) (Or.inl y)]
  · rw [if_neg (fun z => y (ey.mpr z)), if_pos nI_0, bd_e (cf_inodeMark i18)]
    by_cases m : im (σ 3) (σ 2 (8 * b + c) % 32) = 0
    · rw [if_pos (by rw [m]; rfl), pif_t (P := Ea σ (8 * b + c)) (Or.inr (Or.inl m))]
    · rw [if_neg (fun z => m ((nI0 (by omega)).mp z)), bd_e (cf_kind i18)]
      have kk := VT_k hT1 i18
      have pp := VT_p hT4 i18 (k := 0) (by omega)
      by_cases d : kd (σ 1) (σ 2 (8 * b + c) % 32) = 2
      · rw [if_pos (by rw [d]), bd_e (cf_pointer i18 (by omega))]
        by_cases p : pt (σ 4) (σ 2 (8 * b + c) % 32) 0 = 0
        · rw [if_pos (by rw [p]; rfl), pif_t (P := Ea σ (8 * b + c)) (Or.inr (Or.inr ⟨d, p⟩))]
        · rw [if_neg (fun z => p ((nI0 (by omega)).mp z)), pif_f]
          rintro (z | z | z)
          · exact y z
          · exact m z
          · exact p z.2
      · rw [if_neg (fun z => d ((nI_eq (by omega) (by omega)).mp z)), pif_f]
        rintro (z | z | z)
        · exact y z
        · exact m z
        · exact d z.1
theorem cf_early {b c : Nat} (h : Inw n σ) (hn : n ≤ 1000) (hb : isD b) (hc : c < 8) (hD : DB σ b) (h0 : σ 2 (8 * b + c) ≠ 0) : s_R_early (bz (yb σ)) (zz (rM (σ 0) (σ 1) (σ 2))) (zz (rM (σ 3) (σ 4) (σ 5))) (nI b) (nI c) = some (pif (Ea σ (8 * b + c)) (nI 1) (nI 0)) := by
  have hb36 := hb.1
  have hq : 8 * b + c < 288 := by omega
  have e8 : (8 * b + c) / 8 = b := by omega
  have e8' : (8 * b + c) % 8 = c := by omega
  have h5 := Inw_V5 h
  obtain ⟨ok1, k1, k2, k3, k4⟩ := Inw_V11 h (8 * b + c) hq (by rw [e8]; exact hD) h0
  have i18 := ok1.2.2.2
  have o2 := ok1.2.1
  have hT4 := Inw_VT4 h hn
  have hT1 := Inw_VT1 h hn
  have b3 : im (σ 3) (σ 2 (8 * b + c) % 32) ≤ 1 := (h5.1 (σ 2 (8 * b + c) % 32 / 6 * 16 + σ 2 (8 * b + c) % 32 % 6) (by omega)).2
  unfold s_R_early s_R_early_68 s_R_early_72
  rw [rd_w hb hc, show nI 8 * nI b + nI c = nI (8 * b + c) by rw [pk_mul, nI_add], gr_e _ rfl hq (by decide), pk_rem (by omega) (by decide) (by decide), bd_e (cf_markOfInode i18), rd_im i18, bd_e (cf_at i18 (by omega)), rd_t i18 (by omega), bd_e (cf_at i18 (by omega)), rd_t i18 (by omega)]
  show (if pif (yb σ (8 * b + c)) (nI 1) (nI 0) = 0 then (if nI (im (σ 3) (σ 2 (8 * b + c) % 32)) = 0 then _ else if nI (kd (σ 1) (σ 2 (8 * b + c) % 32)) = nI 2 then if nI (pt (σ 4) (σ 2 (8 * b + c) % 32) 0) = 0 then _ else _ else _) else _) = _
  by_cases y : yb σ (8 * b + c)
  · rw [if_neg (fun z => pif01.mp z y), pif_t (P := Ea σ (8 * b + c)) (Or.inl y)]
  · rw [if_pos (pif01.mpr y)]
    by_cases m : im (σ 3) (σ 2 (8 * b + c) % 32) = 0
    · rw [if_pos (by rw [m]; rfl), pif_t (P := Ea σ (8 * b + c)) (Or.inr (Or.inl m))]
    · rw [if_neg (fun z => m ((nI0 (by omega)).mp z))]
      have kk := VT_k hT1 i18
      have pp := VT_p hT4 i18 (k := 0) (by omega)
      by_cases d : kd (σ 1) (σ 2 (8 * b + c) % 32) = 2
      · rw [if_pos (by rw [d])]
        by_cases p : pt (σ 4) (σ 2 (8 * b + c) % 32) 0 = 0
        · rw [if_pos (by rw [p]; rfl), pif_t (P := Ea σ (8 * b + c)) (Or.inr (Or.inr ⟨d, p⟩))]
        · rw [if_neg (fun z => p ((nI0 (by omega)).mp z)), pif_f]
          rintro (z | z | z)
          · exact y z
          · exact m z
          · exact p z.2
      · rw [if_neg (fun z => d ((nI_eq (by omega) (by omega)).mp z)), pif_f]
        rintro (z | z | z)
        · exact y z
        · exact m z
        · exact d z.1
-- an entry that must stay
def Lsw (σ : St) (T1 : Nat → Nat) (q : Nat) : Prop := ∃ i, i < 18 ∧ Tr (Ed T1 (σ 2) z1) 0 i ∧ Tr (Ed (σ 4) (σ 5) (σ 6)) 0 i ∧ ¬ Tr (Ed (σ 4) (up (σ 5) q 0) (σ 6)) 0 i
theorem VE_up {T W K : Nat → Nat} {p : Nat} (h : VE T W K) : VE T (up W p 0) K := by
  intro d c hd hc
  have hh := h d c hd hc
  have : en T (up W p 0) K d c = 0 ∨ en T (up W p 0) K d c = en T W K d c := by
    unfold en
    split
    · by_cases z : 8 * pt T d 0 + c = p
      · left; rw [z, up_s]
      · right; rw [up_n z]
    · exact Or.inl rfl
  rcases this with z | z
  · rw [z]; exact ⟨by omega, fun y => absurd rfl y⟩
  · rw [z]; exact hh
theorem up_up {T : Nat → Nat} {k a : Nat} : up (up T k a) k (T k) = T := by
  funext j
  by_cases z : j = k
  · rw [z, up_s]
  · rw [up_n z, up_n z]
theorem cf_mustStay {b c : Nat} (qm qd : AR) (h : Inw n σ) (hn : n ≤ 1000) (hF : 18 < F) (hb : b < 36) (hc : c < 8) (h6 : σ 6 b = 0) : ∃ qm' qd', s_V_mustStay F (zz (σ 1)) (zz (σ 2)) (zz z1) (zz (σ 4)) (zz (σ 6)) (nI b) (nI c) qm (zz (σ 5)) qd = some (pif (Lsw σ (σ 1) (8 * b + c)) (nI 1) (nI 0), qm', zz (σ 5), qd') := by
  have h5 := Inw_V5 h
  have hT4 := Inw_VT4 h hn
  have hT1 := Inw_VT1 h hn
  have hB : ∀ a, a < 36 → σ 6 a ≤ 1 := fun a ha => (h5.2.1 a ha).1
  have hV4 := VEd h
  have hV1 := VEm h
  obtain ⟨r1, q1, e1, t1⟩ := cf_reach (F := F) qd hF hT4 hB hV4 (show (0 : Nat) < 18 by omega)
  obtain ⟨r2, q2, e2, t2⟩ := cf_reach (F := F) q1 hF hT4 hB (VE_up (p := 8 * b + c) hV4) (show (0 : Nat) < 18 by omega)
  obtain ⟨r3, q3, e3, t3⟩ := cf_reach (F := F) qm hF hT1 z1_le hV1 (show (0 : Nat) < 18 by omega)
  refine ⟨q3, q2, ?_⟩
  unfold s_V_mustStay
  rw [bd_e (cf_word' hb hc (hB b hb)), show sdw (σ 5) (σ 6) (8 * b + c) = σ 5 (8 * b + c) by unfold sdw; rw [show (8 * b + c) / 8 = b by omega, if_pos h6], bd_e e1]
  show bd (s_S_setWord (nI b) (nI c) (nI 0) (zz (σ 5))) _ = _
  rw [bd_e (cf_setWord hb hc), bd_e e2]
  show bd (s_S_setWord (nI b) (nI c) (nI (σ 5 (8 * b + c))) (zz (up (σ 5) (8 * b + c) 0))) _ = _
  rw [bd_e (cf_setWord hb hc), up_up, bd_e e3]
  show (if (r1 &&& (r2 ^^^ (-1))) &&& r3 = 0 then _ else _) = _
  have hbit : ∀ i, i < 32 → (bt ((r1 &&& (r2 ^^^ (-1))) &&& r3) i = true ↔ (Tr (Ed (σ 1) (σ 2) z1) 0 i ∧ Tr (Ed (σ 4) (σ 5) (σ 6)) 0 i ∧ ¬ Tr (Ed (σ 4) (up (σ 5) (8 * b + c) 0) (σ 6)) 0 i)) := by
    intro i hi
    rw [b_and, b_and, b_xor, b_m1 i hi, ← t1 i hi, ← t2 i hi, ← t3 i hi]
    cases bt r1 i <;> cases bt r2 i <;> cases bt r3 i <;> decide
  by_cases L : Lsw σ (σ 1) (8 * b + c)
  · rw [pif_t L, if_neg]
    intro z
    obtain ⟨i, hi, a, b', c'⟩ := L
    have := (hbit i (by omega)).mpr ⟨a, b', c'⟩
    rw [z, b_0] at this; cases this
  · rw [pif_f L, if_pos]
    refine b_ext (fun i hi => ?_)
    rw [b_0]
    refine Bool.eq_false_iff.mpr (fun z => L ?_)
    obtain ⟨a, b', c'⟩ := (hbit i hi).mp z
    exact ⟨i, Tr_lt hV1 (by omega) a, a, b', c'⟩
theorem ls_66 {mem fresh dsk : AR} {S1 S2 S3 : Nat → Prop} : ∀ (r i m : Nat), i + r = 18 → r < m → s_R_loses_66 F mem fresh m (nI i) dsk (bz S1) (bz S2) (bz S3) = some (pif (∃ j, i ≤ j ∧ j < 18 ∧ S1 j ∧ S2 j ∧ ¬ S3 j) (nI 1) (nI 0), dsk, bz S1, bz S2, bz S3) := by
  intro r
  induction r with
  | zero =>
    intro i m hi hm
    obtain ⟨m, rfl⟩ : ∃ q, m = q + 1 := ⟨m - 1, by omega⟩
    unfold s_R_loses_66
    rw [if_pos (nI_le (by omega) (by omega)), pif_f]
    rintro ⟨j, a, b, _⟩; omega
  | succ r ih =>
    intro i m hi hm
    obtain ⟨m, rfl⟩ : ∃ q, m = q + 1 := ⟨m - 1, by omega⟩
    have this := ih (i + 1) m (by omega) (by omega)
    have skip : ¬ (S1 i ∧ S2 i ∧ ¬ S3 i) → pif (∃ j, i + 1 ≤ j ∧ j < 18 ∧ S1 j ∧ S2 j ∧ ¬ S3 j) (nI 1) (nI 0) = pif (∃ j, i ≤ j ∧ j < 18 ∧ S1 j ∧ S2 j ∧ ¬ S3 j) (nI 1) (nI 0) := fun hh => by
      refine pif_congr ⟨fun ⟨j, a, b⟩ => ⟨j, by omega, b⟩, fun ⟨j, a, b, c⟩ => ⟨j, ?_, b, c⟩⟩
      by_cases z : j = i
      · rw [z] at c; exact absurd c hh
      · omega
    unfold s_R_loses_66
    rw [if_neg (nI_ge (by omega) (by omega)), gr_e i rfl (by omega) (by decide), gr_e i rfl (by omega) (by decide), gr_e i rfl (by omega) (by decide), nI_add]
    show (if pif (S1 i) (nI 1) (nI 0) = 0 then _ else if pif (S2 i) (nI 1) (nI 0) = 0 then _ else if pif (S3 i) (nI 1) (nI 0) = 0 then _ else _) = _
    by_cases a : S1 i
    · rw [if_neg (fun z => pif01.mp z a)]
      by_cases b : S2 i
      · rw [if_neg (fun z => pif01.mp z b)]
        by_cases c : S3 i
        · rw [if_neg (fun z => pif01.mp z c), this, skip (fun z => z.2.2 c)]
        · rw [if_pos (pif01.mpr c), pif_t ⟨i, Nat.le_refl _, by omega, a, b, c⟩]
      · rw [if_pos (pif01.mpr b), this, skip (fun z => b z.2.1)]
    · rw [if_pos (pif01.mpr a), this, skip (fun z => a z.1)]
theorem cf_loses {b c : Nat} {T1 : Nat → Nat} {M0 : Nat → Nat} (S1 S2 S3 : Nat → Prop) (h : Inw n σ) (hn : n ≤ 1000) (hF : 18 < F) (hb : isD b) (hc : c < 8) (hT1 : VT T1) (hV1 : VE T1 (σ 2) z1) : ∃ S1' S2' S3', s_R_loses F (zz (rM M0 T1 (σ 2))) (zz (σ 6)) (nI b) (nI c) (zz (rM (σ 3) (σ 4) (σ 5))) (bz S1) (bz S2) (bz S3) = some (pif (Lsw σ T1 (8 * b + c)) (nI 1) (nI 0), zz (rM (σ 3) (σ 4) (σ 5)), bz S1', bz S2', bz S3') := by
  have hb36 := hb.1
  have h5 := Inw_V5 h
  have hT4 := Inw_VT4 h hn
  have hB : ∀ a, a < 36 → σ 6 a ≤ 1 := fun a ha => (h5.2.1 a ha).1
  have hV4 := VEd h
  obtain ⟨A1, e1, t1⟩ := cf_treeM (F := F) (A := M0) (dsk := zz (rM (σ 3) (σ 4) (σ 5))) (fresh := zz (σ 6)) S1 hF hT1 hV1
  obtain ⟨A2, e2, t2⟩ := cf_treeD (F := F) (A := σ 3) (mem := zz (rM M0 T1 (σ 2))) S2 hF hT4 hB hV4
  obtain ⟨A3, e3, t3⟩ := cf_treeD (F := F) (A := σ 3) (mem := zz (rM M0 T1 (σ 2))) S3 hF hT4 hB (VE_up (p := 8 * b + c) hV4)
  refine ⟨A1, A2, A3, ?_⟩
  unfold s_R_loses
  rw [e_s_R_tree_onDisk, e_s_R_tree_then, bd_e e1, bd_e e2, rd_w hb hc, ix30, ga_e _ rfl (by omega) (by decide), nI_clamp (by omega), zz_up, up_w hb hc, bd_e e3, ga_e _ rfl (by omega) (by decide), zz_up, up_w hb hc, up_up, ls_66 18 0 F rfl (by omega)]
  congr 2
  refine pif_congr ⟨fun ⟨j, _, a, p, r, s⟩ => ⟨j, a, (t1 j a).mp p, (t2 j a).mp r, fun z => s ((t3 j a).mpr z)⟩, fun ⟨j, a, p, r, s⟩ => ⟨j, Nat.zero_le _, a, (t1 j a).mpr p, (t2 j a).mpr r, fun z => s ((t3 j a).mp z)⟩⟩
end WT
