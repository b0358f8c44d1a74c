-- the reference's giving back is GB
def SS (σ : St) (J F N : Nat → Prop) (f lf O : Nat → Nat) : Prop :=
  GI σ J F N ∧ (∀ j, j < 18 → lf j = (lk (σ 1) j - UF σ F j) + f j) ∧ (∀ j, j < 18 → O j = cw σ F j + f j ∨ (f j = 0 ∧ O j ≤ cw σ F j)) ∧ (∀ j, j < 18 → f j < 300) ∧ (∀ j, j < 18 → 0 < f j → 0 < j ∧ kd (σ 1) j ≠ 0 ∧ ¬ J j) ∧ (∀ j, fl σ F j → J j ∨ 0 < f j) ∧ (∀ j, 18 ≤ j → lf j = σ 1 (5 * j + 1) ∧ O j = 0)
noncomputable def pfl (f : Nat → Nat) : Nat := pif (∃ j, j < 18 ∧ 0 < f j) 1 0
section SE
variable {n Fu : Nat} {σ : St} {J F N : Nat → Prop} {f lf O : Nat → Nat}
theorem cf_count {C : Nat → Nat} (hFu : 300 < Fu) (hn : n ≤ 600) (h : Inw n σ) (hS : SS σ J F N f lf O) :
    ∃ J' mv' lf' O' C', GI σ J' F N ∧ (∀ j, J j → J' j) ∧ (∀ j, fl σ F j → J' j) ∧ mv' ≤ 1 ∧ (mv' = 0 → ∀ j, j < 18 → f j = 0) ∧ (mv' = 1 → ∃ j, j < 18 ∧ 0 < f j) ∧ (∀ j, j < 18 → O' j = cw σ F j ∧ lf' j = lk (σ 1) j - UF σ F j) ∧ (∀ j, 18 ≤ j → lf' j = σ 1 (5 * j + 1) ∧ O' j = 0) ∧ s_R_count Fu (zz (rM (σ 3) (σ 4) (σ 5))) (zz (σ 6)) (zz (app σ J F N 8)) (zz (rM (app σ J F N 0) (rT σ J lf) (σ 2))) (bz (rs σ J N)) (zz O) (zz C) = some (nI mv', zz (app σ J' F N 8), zz (rM (app σ J F N 0) (rT σ J' lf') (σ 2)), bz (rs σ J' N), zz O', zz C') := by
  obtain ⟨hG, s2, s3, s4, s5, s6, s7⟩ := hS
  have hlf : ∀ j, j < 18 → lf j < 2 ^ 30 := by
    intro j hj
    have := s2 j hj
    have := s4 j hj
    have : lk (σ 1) j ≤ n + 1 := h.2.2.2.2.1.1 j hj
    omega
  have hFo : ∀ b, F b → σ 8 b ≠ 0 ∨ ∃ i k, i < 18 ∧ k < 3 ∧ J i ∧ pt (σ 1) i k = b := fun b q => (hG.2.1 b q).2.2.2
  have hcq : ∀ j, j < 18 → cq σ (wt (app σ J F N 8) (rT σ J lf)) C 288 j = cw σ F j := by
    intro j hj
    unfold cq
    rw [if_pos hj]
    refine cn_congr (fun q hq => ?_)
    rw [wt_iff h hFo (by omega)]
    exact ⟨fun ⟨⟨a, b⟩, c⟩ => ⟨a, b, c⟩, fun ⟨a, b, c⟩ => ⟨⟨a, b⟩, c⟩⟩
  obtain ⟨J', mv', lf', O', b1, b2, b3, b4, b5, b6, b7, b8, b9, b10⟩ := ft_131 (Fu := Fu) (A := app σ J F N 0) (dsk := zz (rM (σ 3) (σ 4) (σ 5))) (fresh := zz (σ 6)) (C := cq σ (wt (app σ J F N 8) (rT σ J lf)) C 288) (f := f) hFu (by omega) h (fun i hi => by rw [hcq i hi]; have := cw_288 (σ := σ) (F := F) (i := i); omega) s4 (fun i hi q => ⟨(s5 i hi q).1, (s5 i hi q).2.1⟩) 18 0 Fu J lf O 0 rfl (by omega) (by omega) hG hlf (fun j _ hj q => (s5 j hj q).2.2) (fun j _ hj => ⟨by rw [hcq j hj]; exact s3 j hj, s2 j hj⟩) (fun j hj => absurd hj (Nat.not_lt_zero _))
  refine ⟨J', mv', lf', O', cq σ (wt (app σ J F N 8) (rT σ J lf)) C 288, b1, b2, fun j q => ?_, b5, fun q j hj => (b6 q).2 j (Nat.zero_le _) hj, fun q => ?_, fun j hj => ⟨by rw [(b8 j hj).1, hcq j hj], (b8 j hj).2⟩, fun j hj => ⟨by rw [(b9 j hj).2]; exact (s7 j hj).1, by rw [(b9 j hj).1]; exact (s7 j hj).2⟩, ?_⟩
  · rcases s6 j q with z | z
    · exact b2 j z
    · exact b3 j (Nat.zero_le _) q.2.1 z q.2.2.2
  · refine Classical.byContradiction fun z => ?_
    have := b7 ⟨rfl, fun j _ hj => by refine Classical.byContradiction fun y => z ⟨j, hj, by omega⟩⟩
    omega
  · have e2 := cf_count_2 (Fu := Fu) (σ := σ) (dr := zz (app σ J F N 8)) (rl := bz (rs σ J N)) (od := zz O) (mem := zz (rM (app σ J F N 0) (rT σ J lf) (σ 2))) (C := C) 18 0 Fu rfl (by omega)
    rw [cp_0] at e2
    have e3 : cp C z1 0 18 = cq σ (wt (app σ J F N 8) (rT σ J lf)) C (8 * 0) := by
      funext j; unfold cp cq
      by_cases hj : j < 18
      · rw [if_pos ⟨Nat.zero_le _, by omega⟩, if_pos hj]; rfl
      · rw [if_neg (by omega), if_neg hj]
    rw [e3, cf_count_23 (N := N) (by omega) (by omega) h hlf hFo 36 0 Fu rfl (by omega)] at e2
    exact e2.trans b10
theorem DB_app (h : Inw n σ) (hF : ∀ b, F b → σ 8 b ≠ 0 ∨ ∃ i k, i < 18 ∧ k < 3 ∧ J i ∧ pt (σ 1) i k = b) {b : Nat} (hb : b < 36) : DB (app σ J F N) b ↔ ¬ F b ∧ DB σ b := by
  rw [← wt_iff (lf := fun _ => 0) (N := N) h hF hb]
  have hpt : ∀ i k, k < 3 → pt (rT σ J (fun _ => 0)) i k = pt (app σ J F N 1) i k := fun i k hk => by rw [rT_pt hk, ap_pt hk]
  have hkd : ∀ i, kd (rT σ J (fun _ => 0)) i = kd (app σ J F N 1) i := fun i => by rw [rT_kd, ap_kd]
  constructor
  · rintro ⟨h0, hh⟩
    have h2 : 2 ≤ b % 12 := by
      rcases hh with e | ⟨i, i1, i2, i3⟩
      · exact (ap8_own h hb (by rw [e]; decide)).2.1.2
      · rw [ap_pt (by omega)] at i3
        by_cases ji : J i
        · rw [pif_t ji] at i3; exact absurd i3.symm h0
        · rw [pif_f ji] at i3
          rcases (h.1.1 i i1).2.1 0 (by omega) with z | z
          · rw [i3] at z; exact absurd z h0
          · rw [← i3]; exact z.2
    refine ⟨h2, hh.imp_right (fun ⟨i, i1, i2, i3⟩ => (ow_2 (rT_VJ h.2.2.1.1) h0).mpr ⟨i, 0, i1, by omega, by rw [hpt i 0 (by omega)]; exact i3, by rw [hkd]; exact i2⟩)⟩
  · rintro ⟨h2, hh⟩
    have h0 : b ≠ 0 := by omega
    refine ⟨h0, hh.imp_right (fun q => ?_)⟩
    obtain ⟨i, k, i1, i2, i3, i4⟩ := (ow_2 (rT_VJ h.2.2.1.1) h0).mp q
    rw [hkd] at i4
    refine ⟨i, i1, i4, ?_⟩
    rw [rT_pt i2] at i3
    rw [ap_kd] at i4
    by_cases ji : J i
    · rw [pif_t ji] at i4; cases i4
    · rw [pif_f ji] at i3 i4
      rw [ap_pt (by omega), pif_f ji]
      have hp := (h.1.1 i i1).2.2.2 i4
      rcases (show k = 0 ∨ k = 1 ∨ k = 2 by omega) with rfl | rfl | rfl
      · exact i3
      · rw [hp.1] at i3; exact absurd i3.symm h0
      · rw [hp.2] at i3; exact absurd i3.symm h0
theorem st_4 (hFu : 300 < Fu) (hn : n ≤ 600) (h : Inw n σ) (h9 : V9 σ) : ∀ (d m rnd : Nat) (J F N : Nat → Prop) (f lf O C : Nat → Nat), SS σ J F N f lf O → 2 * (36 - cn F 36) + 2 * (18 - cn N 18) + pfl f ≤ d → d + 1 < m → rnd + d + 1 < 200 →
    ∃ C', s_R_settle_4 Fu (zz (rM (σ 3) (σ 4) (σ 5))) (zz (σ 6)) m (nI 1) (nI rnd) (zz (app σ J F N 8)) (zz (rM (app σ J F N 0) (rT σ J lf) (σ 2))) (bz (rs σ J N)) (zz O) (zz C) = some (zz (GB σ 8), zz (rM (GB σ 0) (GB σ 1) (σ 2)), bz (fun i => GB σ 9 i = 2), zz (owd (GB σ)), zz C') := by
  intro d
  induction d with
  | zero =>
    intro m rnd J F N f lf O C hS hd hm hr
    exfalso
    have h1 := cn_le (P := F) (n := 36)
    have := cn_full (P := F) (n := 36) (by omega) 0 (by omega)
    have := (hS.1.2.1 0 this).1
    omega
  | succ d ih =>
    intro m rnd J F N f lf O C hS hd hm hr
    obtain ⟨m, rfl⟩ : ∃ q, m = q + 1 := ⟨m - 1, by omega⟩
    obtain ⟨J1, mv1, lf1, O1, C1, c1, c2, c3, c4, c5, c6, c7, c8, c9⟩ := cf_count (C := C) hFu hn h hS
    obtain ⟨F1, mv2, d1, d2, d3, d4, d5, d6, d7, d8⟩ := st_22 (Fu := Fu) (lf := lf1) (od := zz O1) (ct := zz C1) (k4 := s_R_settle_4 Fu (zz (rM (σ 3) (σ 4) (σ 5))) (zz (σ 6)) m) (x2 := nI rnd) (by omega) (show n ≤ 1000 by omega) h 36 0 Fu mv1 F rfl (by omega) c4 c1
    obtain ⟨N1, mv3, e1, e2, e3, e4, e5, e6, e7, e8⟩ := st_72 (Fu := Fu) (lf := lf1) (od := zz O1) (ct := zz C1) (k4 := s_R_settle_4 Fu (zz (rM (σ 3) (σ 4) (σ 5))) (zz (σ 6)) m) (fresh := zz (σ 6)) (x2 := nI rnd) (show n ≤ 1000 by omega) h 18 0 Fu mv2 N rfl (by omega) d1 d3
    have hgo : s_R_settle_4 Fu (zz (rM (σ 3) (σ 4) (σ 5))) (zz (σ 6)) (m + 1) (nI 1) (nI rnd) (zz (app σ J F N 8)) (zz (rM (app σ J F N 0) (rT σ J lf) (σ 2))) (bz (rs σ J N)) (zz O) (zz C) = s_R_settle_4 Fu (zz (rM (σ 3) (σ 4) (σ 5))) (zz (σ 6)) m (nI mv3) (nI (rnd + 1)) (zz (app σ J1 F1 N1 8)) (zz (rM (app σ J1 F1 N1 0) (rT σ J1 lf1) (σ 2))) (bz (rs σ J1 N1)) (zz O1) (zz C1) := by
      conv => lhs; unfold s_R_settle_4
      rw [if_neg (nI_ge (by omega) (by omega)), if_neg (show ¬ nI 1 = 0 by decide), bd_e c9]
      show s_R_settle_22 Fu _ _ _ Fu (nI mv1) (nI rnd) (nI 0) (zz (app σ J1 F N 8)) (zz (rM (app σ J1 F N 0) (rT σ J1 lf1) (σ 2))) (bz (rs σ J1 N)) (zz O1) (zz C1) = _
      rw [d8, e8, nI_add]
    rw [hgo]
    have lkle : ∀ (G : Nat → Prop) j, j < 18 → UF σ G j ≤ lk (σ 1) j := by
      intro G j hj
      by_cases hk : kd (σ 1) j = 0
      · rw [UF_0 h (Or.inr (Or.inr hk))]; omega
      · by_cases h0 : j = 0
        · rw [UF_0 h (Or.inl h0)]; omega
        · exact UF_lk h (by omega) hj hk
    rcases (show mv3 = 0 ∨ mv3 = 1 by omega) with rfl | rfl
    · -- the end
      have z2 : mv2 = 0 := by omega
      have z1' : mv1 = 0 := by omega
      obtain ⟨f1, f2⟩ := d5 z2
      have eF : ∀ x, F1 x ↔ F x := fun x => ⟨f1 x, d4 x⟩
      have hG3 : GI σ J1 F1 N1 := e3
      have hend : app σ J1 F1 N1 = GB σ := by
        refine GI_end hG3 (fun j hj => ⟨fun q => c3 j (UF_mono2 (fun b => (eF b).mp) q), fun q z => e5 j (Nat.zero_le _) hj q z⟩) (fun y hy hdn => ?_) h
        have := f2 y (Nat.zero_le _) hy hdn
        have e : app σ J1 F1 N1 8 = app σ J1 F N1 8 := congrFun (app_congr (fun _ => Iff.rfl) eF (fun _ => Iff.rfl)) 8
        rw [e]; exact this
      obtain ⟨m, rfl⟩ : ∃ q, m = q + 1 := ⟨m - 1, by omega⟩
      refine ⟨C1, ?_⟩
      unfold s_R_settle_4
      rw [if_neg (nI_ge (by omega) (by omega)), if_pos (show nI 0 = 0 from rfl)]
      have eU : ∀ j, UF σ F1 j = UF σ F j := fun j => Nat.le_antisymm (UF_mono f1) (UF_mono d4)
      have eT : rT σ J1 lf1 = GB σ 1 := by
        rw [← hend]
        funext q
        show (if q % 5 = 1 then lf1 (q / 5) else _) = (if q % 5 = 1 then σ 1 q - UF σ F1 (q / 5) else _)
        by_cases hq : q % 5 = 1
        · rw [if_pos hq, if_pos hq, eU]
          by_cases h18 : q / 5 < 18
          · rw [(c7 _ h18).2]; show σ 1 (5 * (q / 5) + 1) - _ = _; rw [show 5 * (q / 5) + 1 = q by omega]
          · rw [(c8 _ (by omega)).1, UF_0 h (Or.inr (Or.inl (by omega))), show 5 * (q / 5) + 1 = q by omega]; rfl
        · rw [if_neg hq, if_neg hq]
      have eO : O1 = owd (GB σ) := by
        funext j
        unfold owd
        by_cases hj : j < 18
        · rw [if_pos hj, (c7 j hj).1]
          refine cn_congr (fun q hq => ?_)
          have hdb : DB (GB σ) (q / 8) ↔ ¬ F1 (q / 8) ∧ DB σ (q / 8) := by
            rw [← hend]; exact DB_app h (fun b z => (hG3.2.1 b z).2.2.2) (by omega)
          have hnm : nmD (GB σ) j q ↔ nmD σ j q := Iff.rfl
          have h2 : (GB σ) 2 q = σ 2 q := rfl
          rw [hdb, hnm, h2, eF]
          exact ⟨fun ⟨a, b, c⟩ => ⟨⟨a, b⟩, c⟩, fun ⟨⟨a, b⟩, c⟩ => ⟨a, b, c⟩⟩
        · rw [if_neg hj]; exact (c8 j (by omega)).2
      have eS : bz (rs σ J1 N1) = bz (fun i => GB σ 9 i = 2) := by
        refine bz_congr (fun i => ?_)
        rw [← hend]
        show _ ↔ pif (N1 i) 0 (pif (J1 i) 2 (pif (fl σ F1 i) 1 (σ 9 i))) = 2
        by_cases a : N1 i
        · rw [pif_t a]; exact ⟨fun q => absurd a q.1, fun q => absurd q (by decide)⟩
        · rw [pif_f a]
          by_cases b : J1 i
          · rw [pif_t b]; exact ⟨fun _ => rfl, fun _ => ⟨a, Or.inl b⟩⟩
          · rw [pif_f b]
            have nf : ¬ fl σ F1 i := fun q => b (c3 i (UF_mono2 (fun x => (eF x).mp) q))
            rw [pif_f nf]
            exact ⟨fun q => q.2.resolve_left b, fun q => ⟨a, Or.inr q⟩⟩
      rw [eT, eO, eS, congrFun hend 8, congrFun hend 0]
    · -- once more
      have hS1 : SS σ J1 F1 N1 (fun j => UF σ F1 j - UF σ F j) lf1 O1 := by
        refine ⟨e3, fun j hj => ?_, fun j hj => ?_, fun j hj => ?_, fun j hj q => ?_, fun j q => ?_, c8⟩
        · have := lkle F1 j hj
          have := UF_mono (σ := σ) (i := j) d4
          show lf1 j = (lk (σ 1) j - UF σ F1 j) + (UF σ F1 j - UF σ F j)
          rw [(c7 j hj).2]; omega
        · have a1 := cw_UF (i := j) h d3.2.2.2.2
          have a2 := cw_UF (i := j) h c1.2.2.2.2
          have := UF_mono (σ := σ) (i := j) d4
          left
          show O1 j = cw σ F1 j + (UF σ F1 j - UF σ F j)
          rw [(c7 j hj).1]; omega
        · have := UF_288 (σ := σ) (F := F1) (i := j)
          show UF σ F1 j - _ < 300
          omega
        · have q' : 0 < UF σ F1 j - UF σ F j := q
          have hk : kd (σ 1) j ≠ 0 := fun z => by rw [UF_0 (F := F1) h (Or.inr (Or.inr z))] at q'; omega
          have h0 : j ≠ 0 := fun z => by rw [UF_0 (F := F1) h (Or.inl z)] at q'; omega
          refine ⟨by omega, hk, fun z => ?_⟩
          have := (c1.1 j z).2.2.2
          have := lkle F1 j hj
          omega
        · by_cases z : UF σ F1 j = UF σ F j
          · exact Or.inl (c3 j ⟨q.1, q.2.1, q.2.2.1, by rw [← z]; exact q.2.2.2⟩)
          · have := UF_mono (σ := σ) (i := j) d4
            exact Or.inr (by show 0 < UF σ F1 j - UF σ F j; omega)
      refine ih m (rnd + 1) J1 F1 N1 _ lf1 O1 C1 hS1 ?_ (by omega) (by omega)
      have n1 := cn_mono (P := N) (Q := N1) (n := 18) (fun x _ q => e4 x q)
      have n2 := cn_le (P := N1) (n := 18)
      have k2 := cn_le (P := F1) (n := 36)
      have p1 : pfl (fun j => UF σ F1 j - UF σ F j) ≤ 1 := by
        unfold pfl
        by_cases z : ∃ j, j < 18 ∧ 0 < UF σ F1 j - UF σ F j
        · rw [pif_t z]; omega
        · rw [pif_f z]; omega
      rcases d7 with z | z
      · have eU : ∀ j, UF σ F1 j = UF σ F j := fun j => Nat.le_antisymm (UF_mono z) (UF_mono d4)
        have p0 : pfl (fun j => UF σ F1 j - UF σ F j) = 0 := pif_f (fun ⟨j, _, y⟩ => by have y' : 0 < UF σ F1 j - UF σ F j := y; have := eU j; omega)
        have k1 := cn_mono (P := F) (Q := F1) (n := 36) (fun x _ q => d4 x q)
        by_cases y : mv2 = 0
        · have := cn_lt (P := N) (Q := N1) (n := 18) (fun x _ q => e4 x q) (by obtain ⟨x, x1, x2, x3⟩ := e7 rfl y; exact ⟨x, x1, x2, x3⟩)
          clear c5 c6 d5 d6 e6 e7
          omega
        · have m1 : mv1 = 1 := by
            refine Classical.byContradiction fun q => ?_
            obtain ⟨x, x1, x2, x3⟩ := d6 (by omega) (by omega)
            exact x3 (z x x2)
          have pf : pfl f = 1 := pif_t (c6 m1)
          clear c5 c6 d5 d6 e6 e7
          omega
      · have := cn_lt (P := F) (Q := F1) (n := 36) (fun x _ q => d4 x q) z
        clear c5 c6 d5 d6 e6 e7
        omega
theorem cf_settle {C : Nat → Nat} (hFu : 300 < Fu) (hn : n ≤ 600) (h : Inw n σ) (h9 : V9 σ) (hS : SS σ J (fun _ => False) (fun _ => False) f lf O) : ∃ C', s_R_settle Fu (zz (rM (σ 3) (σ 4) (σ 5))) (zz (σ 6)) (zz (app σ J (fun _ => False) (fun _ => False) 8)) (zz (rM (app σ J (fun _ => False) (fun _ => False) 0) (rT σ J lf) (σ 2))) (bz (rs σ J (fun _ => False))) (zz O) (zz C) = some (zz (GB σ 8), zz (rM (GB σ 0) (GB σ 1) (σ 2)), bz (fun i => GB σ 9 i = 2), zz (owd (GB σ)), zz C') := by
  have p1 : pfl f ≤ 1 := by
    unfold pfl
    by_cases z : ∃ j, j < 18 ∧ 0 < f j
    · rw [pif_t z]; omega
    · rw [pif_f z]; omega
  exact st_4 hFu hn h h9 110 Fu 0 J _ _ f lf O C hS (by omega) (by omega) (by omega)
end SE
