theorem st_read (F : Nat) (hF : 36 < F) : St_read F Rl0 := by
  intro n v0 v1 v2 v3 v4 v5 v6 v7 v8 v9 v10 v11 v12 v13 r0 r1 r2 r3 r4 r5 r6 r7 r8 r9 r10 r11 x1 x2 hn hR
  obtain ⟨σ, hI, h0, h1, h2, h3, h4, h5, h6, h7, h8, h9, h10, h11, h12, h13, h14, h15, h16, h17, h18, h19, ⟨S1, h20⟩, hrest⟩ := hR
  subst h1 h2 h3 h12 h20
  have hT := Inv_VT1 hI
  have hE := VEm hI.2.1
  obtain ⟨q', eq⟩ := cf_isTree1 (F := F) v4 x1 (by omega) hT hE
  obtain ⟨S', eS⟩ := cf_holds (F := F) (A := σ 0) (dsk := r1) (fresh := r2) (kk := 1) S1 x1 (by omega) hT hE (by omega)
  have key : ∃ r S'', s_V_read F (zz (σ 1)) (zz (σ 2)) (zz z1) x1 x2 v4 = some (r, q') ∧ s_R_read F (zz (rM (σ 0) (σ 1) (σ 2))) r1 r2 x1 x2 (bz S1) = some (r, bz S'') := by
    unfold s_V_read s_R_read s_V_isWord s_V_isWord_14
    rw [bd_e eq]
    show ∃ r S'', (if pif _ (nI 1) (nI 0) = 0 then _ else _) = _ ∧ _
    by_cases ht : isT (σ 1) (σ 2) 1 x1
    · rw [if_neg (fun z => pif01.mp z ht)]
      obtain ⟨i, hi, rfl, t, hk⟩ := ht
      have ht : isT (σ 1) (σ 2) 1 (nI i) := ⟨i, hi, rfl, t, hk⟩
      by_cases a : x2 < 0
      · rw [if_pos a, if_pos a, bd_s, if_pos (show nI 0 = 0 from rfl)]; exact ⟨_, S1, rfl, rfl⟩
      · rw [if_neg a, if_neg a]
        by_cases b : nI 24 ≤ x2
        · have b' : nI 23 < x2 := by
            have := Int32.le_iff_toInt_le.mp b
            rw [nI_toInt (by decide)] at this
            exact Int32.lt_iff_toInt_lt.mpr (by rw [nI_toInt (by decide)]; omega)
          rw [if_pos b, if_pos b', bd_s, if_pos (show nI 0 = 0 from rfl)]; exact ⟨_, S1, rfl, rfl⟩
        · obtain ⟨w, hw, rfl⟩ := ((pk_ix x2 (n := 24) (by decide)).resolve_left a).resolve_left b
          rw [if_neg b, if_neg (nI_nlt (by omega) (by omega)), bd_s, if_neg (show ¬ nI 1 = 0 by decide), pk_rem (a := w) (d := 8) (by omega) (by decide) (by decide), pk_div (a := w) (d := 8) (by omega) (by decide) (by decide), bd_e (cf_pointer hi (by omega)), bd_e eS]
          show ∃ r S'', _ ∧ (if pif _ (nI 1) (nI 0) = 0 then _ else _) = _
          rw [if_neg (fun z => pif01.mp z ht), nI_add, bd_e (cf_at hi (by omega)), rd_t hi (by omega), show 5 * i + (2 + w / 8) = 5 * i + 2 + w / 8 by omega]
          have hp := VT_p hT hi (k := w / 8) (by omega)
          by_cases h0 : pt (σ 1) i (w / 8) = 0
          · have e0 : σ 1 (5 * i + 2 + w / 8) = 0 := h0
            rw [if_pos (by rw [h0]; rfl), if_pos (by rw [e0]; rfl)]; exact ⟨_, S', rfl, rfl⟩
          · have hD := isD_p hT hi (by omega) h0
            rw [if_neg (fun z => h0 ((nI0 (by omega)).mp z)), if_neg (fun z => h0 ((nI0 (show pt (σ 1) i (w / 8) < 2 ^ 31 by omega)).mp z)), bd_e (cf_word' hD.1 (by omega) (z1_le _ hD.1)), rd_w hD (by omega)]
            have e1 : sdw (σ 2) z1 (8 * pt (σ 1) i (w / 8) + w % 8) = σ 2 (8 * pt (σ 1) i (w / 8) + w % 8) := if_pos rfl
            rw [e1]
            exact ⟨_, S', rfl, rfl⟩
    · rw [if_pos (pif01.mpr ht)]
      by_cases a : x2 < 0
      · rw [if_pos a]; exact ⟨_, S1, rfl, rfl⟩
      · rw [if_neg a]
        by_cases b : nI 23 < x2
        · rw [if_pos b]; exact ⟨_, S1, rfl, rfl⟩
        · rw [if_neg b, bd_e eS]
          show ∃ r S'', _ ∧ (if pif _ (nI 1) (nI 0) = 0 then _ else _) = _
          rw [if_pos (pif01.mpr ht)]
          exact ⟨_, S', rfl, rfl⟩
  obtain ⟨r, S'', e1, e2⟩ := key
  exact ⟨r, q', _, e1, e2, σ, Inv_s hI hn, h0, rfl, rfl, rfl, h4, h5, h6, h7, h8, h9, h10, h11, rfl, h13, h14, h15, h16, h17, h18, h19, ⟨S'', rfl⟩, hrest⟩
-- defects
theorem EF_congr {T W K : Nat → Nat} {S S' : Nat → Prop} {i : Nat} (h : ∀ j, j < 18 → (S j ↔ S' j)) : EF T W K S i = EF T W K S' i :=
  cn_congr (fun q hq => and_congr_left' (h _ (by omega)))
theorem PF_congr {T : Nat → Nat} {S S' : Nat → Prop} {b : Nat} (h : ∀ j, j < 18 → (S j ↔ S' j)) : PF T S b = PF T S' b :=
  cn_congr (fun q hq => and_congr_left' (h _ (by omega)))
theorem sm_cn {P : Nat → Prop} {n : Nat} : sm (fun i => pif (P i) 1 0) n = cn P n := by
  induction n with
  | zero => rfl
  | succ n ih =>
    rw [sm_s, ih]
    by_cases p : P n
    · rw [cn_t p, pif_t p]
    · rw [cn_f p, pif_f p]; rfl
theorem sm_0 {n : Nat} : sm (fun _ => 0) n = 0 := by
  induction n with
  | zero => rfl
  | succ n ih => rw [sm_s, ih]
noncomputable def di (M T W K : Nat → Nat) (S : Nat → Prop) (kk i : Nat) : Nat :=
  if kk = 0 then dE M T W K S i else if kk = 3 then pif (¬ S i ∧ (kd T i ≠ 0 ∨ im M i ≠ 0)) 1 0 else if kk = 4 then pif (0 < i ∧ S i ∧ EF T W K S i < lk T i) 1 0 else if kk = 5 then pif (0 < i ∧ S i ∧ lk T i < EF T W K S i) 1 0 else 0
noncomputable def dbk (M T : Nat → Nat) (S : Nat → Prop) (kk b : Nat) : Nat :=
  if kk = 0 then dP M T S b else if kk = 1 then pif (2 ≤ b % 12 ∧ 1 < PF T S b) 1 0 else pif (2 ≤ b % 12 ∧ bm M b ≠ 0 ∧ PF T S b = 0) 1 0
theorem cf_defectsOfInode_85 {F : Nat} {mem dsk fresh : Nat → Int32} {S : Nat → Prop} {kk i e l t5 t0 : Nat} (hk : kk < 6) (hi : i < 18) (he : e < 2 ^ 30) (hl : l < 2 ^ 30) (h5 : t5 ≤ 1) (h0 : t0 ≤ 1) : s_R_defectsOfInode_85 F mem dsk fresh (bz S) (nI kk) (nI i) (nI e) (nI l) (nI t5) (nI t0) = some (nI (if kk = 0 then (if t5 = 0 then 0 else e) else if kk = 3 then pif (¬ S i ∧ t0 ≠ 0) 1 0 else if kk = 4 then pif (0 < i ∧ S i ∧ e < l) 1 0 else if kk = 5 then pif (0 < i ∧ S i ∧ l < e) 1 0 else 0)) := by
  unfold s_R_defectsOfInode_85 s_R_defectsOfInode_157 s_R_defectsOfInode_182 s_R_defectsOfInode_207
  have gi : ∀ k : Int32 → Option Int32, gr (bz S) 18 (nI i) k = k (pif (S i) (nI 1) (nI 0)) := fun k => by rw [gr_e i rfl hi (by decide)]; rfl
  have ki : ∀ j, j < 6 → (nI kk = nI j ↔ kk = j) := fun j hj => nI_eq (by omega) (by omega)
  have i0 : nI i ≤ 0 ↔ ¬ 0 < i := by
    constructor
    · intro q z; exact nI_nle z (by omega) q
    · intro q; have : i = 0 := by omega
      subst this; decide
  rw [gi, gi, gi]
  rcases (show kk = 0 ∨ kk = 1 ∨ kk = 2 ∨ kk = 3 ∨ kk = 4 ∨ kk = 5 by omega) with rfl | rfl | rfl | rfl | rfl | rfl
  · rw [if_pos rfl, if_pos rfl]
    by_cases z : t5 = 0
    · rw [if_pos z, if_pos (by rw [z]; rfl)]
    · rw [if_neg z, if_neg (fun q => z ((nI0 (by omega)).mp q))]
  · show _ = some (nI 0)
    rw [if_neg (show ¬ nI 1 = nI 0 by decide), if_pos rfl]
  · show _ = some (nI 0)
    rw [if_neg (show ¬ nI 2 = nI 0 by decide), if_neg (show ¬ nI 2 = nI 1 by decide), if_pos rfl]
  · show _ = some (nI (pif (¬ S i ∧ t0 ≠ 0) 1 0))
    rw [if_neg (show ¬ nI 3 = nI 0 by decide), if_neg (show ¬ nI 3 = nI 1 by decide), if_neg (show ¬ nI 3 = nI 2 by decide), if_pos rfl]
    by_cases s : S i
    · rw [if_neg (fun q => pif01.mp q s), pif_f (fun q => q.1 s)]
    · rw [if_pos (pif01.mpr s)]
      by_cases z : t0 = 0
      · rw [if_pos (by rw [z]; rfl), pif_f (fun q => q.2 z)]
      · rw [if_neg (fun q => z ((nI0 (by omega)).mp q)), pif_t ⟨s, z⟩]
  · show _ = some (nI (pif (0 < i ∧ S i ∧ e < l) 1 0))
    rw [if_neg (show ¬ nI 4 = nI 0 by decide), if_neg (show ¬ nI 4 = nI 1 by decide), if_neg (show ¬ nI 4 = nI 2 by decide), if_neg (show ¬ nI 4 = nI 3 by decide), if_pos rfl]
    by_cases p : 0 < i
    · rw [if_neg (fun q => i0.mp q p)]
      by_cases s : S i
      · rw [if_neg (fun q => pif01.mp q s)]
        by_cases z : e < l
        · rw [if_neg (nI_ge z (by omega)), pif_t ⟨p, s, z⟩]
        · rw [if_pos (nI_le (by omega) (by omega)), pif_f (fun q => z q.2.2)]
      · rw [if_pos (pif01.mpr s), pif_f (fun q => s q.2.1)]
    · rw [if_pos (i0.mpr p), pif_f (fun q => p q.1)]
  · show _ = some (nI (pif (0 < i ∧ S i ∧ l < e) 1 0))
    rw [if_neg (show ¬ nI 5 = nI 0 by decide), if_neg (show ¬ nI 5 = nI 1 by decide), if_neg (show ¬ nI 5 = nI 2 by decide), if_neg (show ¬ nI 5 = nI 3 by decide), if_neg (show ¬ nI 5 = nI 4 by decide), if_pos rfl]
    by_cases p : 0 < i
    · rw [if_neg (fun q => i0.mp q p)]
      by_cases s : S i
      · rw [if_neg (fun q => pif01.mp q s)]
        by_cases z : l < e
        · rw [if_neg (nI_ge z (by omega)), pif_t ⟨p, s, z⟩]
        · rw [if_pos (nI_le (by omega) (by omega)), pif_f (fun q => z q.2.2)]
      · rw [if_pos (pif01.mpr s), pif_f (fun q => s q.2.1)]
    · rw [if_pos (i0.mpr p), pif_f (fun q => p q.1)]
section DEF
variable {F : Nat} {M T W K : Nat → Nat} {mem : Nat → Int32} {S : Nat → Prop}
theorem cf_defectsOfInode {kk i : Nat} (hF : 36 < F) (hM : ∀ n, n < 48 → M n ≤ 1) (hT : VT T) (hK : ∀ b, b < 36 → K b ≤ 1) (hE : VE T W K) (hk : kk < 6) (hi : i < 18) : s_R_defectsOfInode F mem (zz (rM M T W)) (zz K) (bz S) (nI kk) (nI i) = some (nI (di M T W K S kk i)) := by
  have h1 : im M i ≤ 1 := hM _ (by omega)
  have h2 := VT_k hT hi
  have h3 := (hT i hi).2.1
  have h4 := EF_le (T := T) (W := W) (B := K) (S := S) (i := i)
  have e0 : T (5 * i + 0) = kd T i := rfl
  have e1 : T (5 * i + 1) = lk T i := rfl
  have fin : ∀ t5 t0 : Nat, t5 ≤ 1 → t0 ≤ 1 → (t5 = 0 ↔ ¬ (kd T i = 0 ∨ im M i = 0)) → (t0 ≠ 0 ↔ (kd T i ≠ 0 ∨ im M i ≠ 0)) → s_R_defectsOfInode_85 F mem (zz (rM M T W)) (zz K) (bz S) (nI kk) (nI i) (nI (EF T W K S i)) (nI (lk T i)) (nI t5) (nI t0) = some (nI (di M T W K S kk i)) := by
    intro t5 t0 a b c d
    rw [cf_defectsOfInode_85 hk hi (by omega) h3 a b]
    unfold di dE
    congr 2
    by_cases z : kk = 0
    · rw [if_pos z, if_pos z]
      by_cases y : t5 = 0
      · rw [if_pos y, pif_f (c.mp y)]
      · rw [if_neg y, pif_t (Classical.byContradiction fun q => y (c.mpr q))]
    · rw [if_neg z, if_neg z]
      by_cases z3 : kk = 3
      · rw [if_pos z3, if_pos z3]; exact pif_congr (and_congr_right' d)
      · rw [if_neg z3, if_neg z3]
  have inner : ∀ t5 : Nat, t5 ≤ 1 → (t5 = 0 ↔ ¬ (kd T i = 0 ∨ im M i = 0)) → s_R_defectsOfInode_53 F mem (zz (rM M T W)) (zz K) (bz S) (nI kk) (nI i) (nI (EF T W K S i)) (nI (lk T i)) (nI t5) = some (nI (di M T W K S kk i)) := by
    intro t5 a c
    unfold s_R_defectsOfInode_53 s_R_defectsOfInode_80
    rw [bd_e (cf_at hi (by omega)), rd_t hi (by omega), e0, bd_e (cf_markOfInode hi), rd_im hi]
    by_cases y : kd T i = 0
    · rw [if_pos (by rw [y]; rfl)]
      by_cases x : im M i = 0
      · rw [if_pos (by rw [x]; rfl)]
        exact fin t5 0 a (by omega) c ⟨fun q => absurd rfl q, fun q => q.elim (fun z => absurd y z) (fun z => absurd x z)⟩
      · rw [if_neg (fun q => x ((nI0 (by omega)).mp q))]
        exact fin t5 1 a (by omega) c ⟨fun _ => Or.inr x, fun _ => by decide⟩
    · rw [if_neg (fun q => y ((nI0 (by omega)).mp q))]
      exact fin t5 1 a (by omega) c ⟨fun _ => Or.inl y, fun _ => by decide⟩
  unfold s_R_defectsOfInode s_R_defectsOfInode_48
  rw [bd_e (cf_entriesForR (by omega) hT hK hE (Or.inr ⟨rfl, rfl, rfl⟩) (by omega)), bd_e (cf_at hi (by omega)), rd_t hi (by omega), e1, bd_e (cf_at hi (by omega)), rd_t hi (by omega), e0, bd_e (cf_markOfInode hi), rd_im hi]
  by_cases y : kd T i = 0
  · rw [if_pos (by rw [y]; rfl)]
    exact inner 1 (by omega) ⟨fun q => absurd q (by decide), fun q => absurd (Or.inl y) q⟩
  · rw [if_neg (fun q => y ((nI0 (by omega)).mp q))]
    by_cases x : im M i = 0
    · rw [if_pos (by rw [x]; rfl)]
      exact inner 1 (by omega) ⟨fun q => absurd q (by decide), fun q => absurd (Or.inr x) q⟩
    · rw [if_neg (fun q => x ((nI0 (by omega)).mp q))]
      exact inner 0 (by omega) ⟨fun _ q => q.elim y x, fun _ => rfl⟩
theorem cf_defects_47 {kk c0 : Nat} (hF : 36 < F) (hM : ∀ n, n < 48 → M n ≤ 1) (hT : VT T) (hk : kk < 3) : ∀ (r b n : Nat), b + r = 36 → r < n → s_R_defects_47 F mem (zz (rM M T W)) (zz K) n (nI kk) (nI (c0 + sm (dbk M T S kk) b)) (nI b) (bz S) = some (nI (c0 + sm (dbk M T S kk) 36), bz S) := by
  intro r
  induction r with
  | zero =>
    intro b n hb hn
    obtain ⟨n, rfl⟩ : ∃ q, n = q + 1 := ⟨n - 1, by omega⟩
    unfold s_R_defects_47
    rw [if_pos (nI_le (by omega) (by omega)), show b = 36 by omega]
  | succ r ih =>
    intro b n hb hn
    obtain ⟨n, rfl⟩ : ∃ q, n = q + 1 := ⟨n - 1, by omega⟩
    have this := ih (b + 1) n (by omega) (by omega)
    have hp := PF_le (T := T) (S := S) (b := b)
    rw [sm_s] at this
    unfold s_R_defects_47 s_R_defects_141 s_R_defects_142
    rw [if_neg (nI_ge (by omega) (by omega)), if_neg (nI_ge (by omega) (by omega)), pk_rem (by omega) (by decide) (by decide), nI_add b 1]
    by_cases h0 : 2 ≤ b % 12
    · have hD : isD b := ⟨by omega, h0⟩
      have hm : bm M b ≤ 1 := hM _ (by omega)
      rw [if_neg (nI_ge (by omega) (by omega)), bd_e (cf_pointersToR (by omega) hT (Or.inr ⟨rfl, rfl⟩) (by omega)), bd_e (cf_markOfBlock hD.1), rd_bm hD, nI_add, nI_add, nI_add]
      unfold dbk dP at this ⊢
      rcases (show kk = 0 ∨ kk = 1 ∨ kk = 2 by omega) with rfl | rfl | rfl
      · rw [if_pos (show nI 0 = 0 from rfl)]
        rw [if_pos rfl] at this
        by_cases m0 : bm M b = 0
        · rw [if_pos (by rw [m0]; rfl)]
          rw [pif_t ⟨h0, m0⟩, ← Nat.add_assoc] at this; exact this
        · rw [if_neg (fun q => m0 ((nI0 (by omega)).mp q))]
          rw [pif_f (fun q => m0 q.2), ← Nat.add_assoc] at this; exact this
      · rw [if_neg (show ¬ nI 1 = 0 by decide), if_pos rfl]
        rw [if_neg (by decide), if_pos rfl] at this
        by_cases p1 : 1 < PF T S b
        · rw [if_neg (nI_ge p1 (by omega))]
          rw [pif_t ⟨h0, p1⟩, ← Nat.add_assoc] at this; exact this
        · rw [if_pos (nI_le (by omega) (by omega))]
          rw [pif_f (fun q => p1 q.2), ← Nat.add_assoc] at this; exact this
      · rw [if_neg (show ¬ nI 2 = 0 by decide), if_neg (show ¬ nI 2 = nI 1 by decide)]
        rw [if_neg (by decide), if_neg (by decide)] at this
        by_cases m0 : bm M b = 0
        · rw [if_pos (by rw [m0]; rfl)]
          rw [pif_f (fun q => q.2.1 m0), ← Nat.add_assoc] at this; exact this
        · rw [if_neg (fun q => m0 ((nI0 (by omega)).mp q))]
          by_cases p0 : PF T S b = 0
          · rw [if_pos (by rw [p0]; rfl)]
            rw [pif_t ⟨h0, m0, p0⟩, ← Nat.add_assoc] at this; exact this
          · rw [if_neg (fun q => p0 ((nI0 (by omega)).mp q))]
            rw [pif_f (fun q => p0 q.2.2), ← Nat.add_assoc] at this; exact this
    · rw [if_pos (nI_le (by omega) (by omega))]
      have e0 : dbk M T S kk b = 0 := by
        unfold dbk dP
        rw [pif_f (fun q => h0 q.1), pif_f (fun q => h0 q.1), pif_f (fun q => h0 q.1)]
        split <;> (try split) <;> rfl
      rw [e0, Nat.add_zero] at this; exact this
theorem cf_defects_47b {kk : Nat} {x : Int32} {n : Nat} (h3 : 3 ≤ kk) (h6 : kk < 6) : s_R_defects_47 F mem (zz (rM M T W)) (zz K) (n + 1) (nI kk) x (nI 0) (bz S) = some (x, bz S) := by
  unfold s_R_defects_47
  rw [if_neg (show ¬ nI 36 ≤ nI 0 by decide), if_pos (nI_le h3 (by omega))]
theorem cf_defects_24 {kk : Nat} (hF : 36 < F) (hM : ∀ n, n < 48 → M n ≤ 1) (hT : VT T) (hK : ∀ b, b < 36 → K b ≤ 1) (hE : VE T W K) (hk : kk < 6) : ∀ (r i n : Nat), i + r = 18 → r < n → s_R_defects_24 F mem (zz (rM M T W)) (zz K) n (nI kk) (nI (sm (di M T W K S kk) i)) (nI i) (bz S) = some (nI (sm (di M T W K S kk) 18 + (if kk < 3 then sm (dbk M T S kk) 36 else 0)), bz S) := by
  intro r
  induction r with
  | zero =>
    intro i n hi hn
    obtain ⟨n, rfl⟩ : ∃ q, n = q + 1 := ⟨n - 1, by omega⟩
    unfold s_R_defects_24
    rw [if_pos (nI_le (by omega) (by omega)), show i = 18 by omega]
    by_cases h3 : kk < 3
    · rw [if_pos h3]
      exact cf_defects_47 (c0 := sm (di M T W K S kk) 18) hF hM hT h3 36 0 F rfl hF
    · rw [if_neg h3]
      obtain ⟨f, rfl⟩ : ∃ q, F = q + 1 := ⟨F - 1, by omega⟩
      exact cf_defects_47b (by omega) hk
  | succ r ih =>
    intro i n hi hn
    obtain ⟨n, rfl⟩ : ∃ q, n = q + 1 := ⟨n - 1, by omega⟩
    unfold s_R_defects_24
    rw [if_neg (nI_ge (by omega) (by omega)), bd_e (cf_defectsOfInode hF hM hT hK hE hk (by omega)), nI_add, nI_add]
    exact ih (i + 1) n (by omega) (by omega)
end DEF
theorem st_defects (F : Nat) (hF : 36 < F) : St_defects F Rl0 := by
  intro n v0 v1 v2 v3 v4 v5 v6 v7 v8 v9 v10 v11 v12 v13 r0 r1 r2 r3 r4 r5 r6 r7 r8 r9 r10 r11 x1 hn hR
  obtain ⟨σ, hI, h0, h1, h2, h3, h4, h5, h6, h7, h8, h9, h10, h11, h12, h13, h14, h15, h16, h17, h18, h19, h20, ⟨S2, h21⟩, hrest⟩ := hR
  subst h4 h5 h6 h7 h13 h14 h21
  have hT := Inv_VT4 hI
  have hE := VEd hI.2.1
  have h5 := Inv_V5 hI
  have hM : ∀ m, m < 48 → σ 3 m ≤ 1 := fun m hm => (h5.1 m hm).2
  have hK : ∀ b, b < 36 → σ 6 b ≤ 1 := fun b hb => (h5.2.1 b hb).1
  obtain ⟨X, q', eq, hX⟩ := cf_reach (F := F) (s0 := 0) v9 (by omega) hT hK hE (by omega)
  obtain ⟨S', eS, hS⟩ := cf_treeD (F := F) (A := σ 3) (mem := r0) S2 (by omega) hT hK hE
  have hSX : ∀ j, j < 18 → (S' j ↔ bt X j = true) := fun j hj => (hS j hj).trans (hX j (by omega)).symm
  have key : ∃ r S'', s_V_defects F (zz (σ 3)) (zz (σ 4)) (zz (σ 5)) (zz (σ 6)) x1 v9 = some (r, q') ∧ s_R_defects F r0 (zz (rM (σ 3) (σ 4) (σ 5))) (zz (σ 6)) x1 (bz S2) = some (r, bz S'') := by
    unfold s_V_defects s_R_defects
    rw [e_s_R_tree_onDisk, bd_e eq, bd_e eS]
    show ∃ r S'', (if x1 = nI 0 then _ else _) = _ ∧ _
    rcases pk_ix x1 (n := 6) (by decide) with a | a | ⟨kk, hkk, rfl⟩
    · have ne : ∀ k : Nat, k < 6 → ¬ x1 = nI k := fun k hk q => by rw [q] at a; exact nI_pos (by omega) a
      rw [if_neg (ne 0 (by omega)), if_neg (ne 1 (by omega)), if_neg (ne 2 (by omega)), if_neg (ne 3 (by omega)), if_neg (ne 4 (by omega)), if_neg (ne 5 (by omega)), if_pos a]
      exact ⟨_, S2, rfl, rfl⟩
    · have ne : ∀ k : Nat, k < 6 → ¬ x1 = nI k := fun k hk q => by rw [q] at a; exact nI_ge hk (by omega) a
      have a1 := Int32.le_iff_toInt_le.mp a
      rw [nI_toInt (by decide)] at a1
      have b1 : ¬ x1 < 0 := fun z => by have := Int32.lt_iff_toInt_lt.mp z; rw [show (0 : Int32).toInt = 0 from rfl] at this; omega
      have b2 : ¬ x1 ≤ nI 5 := fun z => by have := Int32.le_iff_toInt_le.mp z; rw [nI_toInt (by decide)] at this; omega
      rw [if_neg (ne 0 (by omega)), if_neg (ne 1 (by omega)), if_neg (ne 2 (by omega)), if_neg (ne 3 (by omega)), if_neg (ne 4 (by omega)), if_neg (ne 5 (by omega)), if_neg b1, if_neg b2]
      exact ⟨_, S2, rfl, rfl⟩
    · rw [if_neg (nI_pos (by omega)), if_pos (nI_le (by omega) (by omega))]
      have hd := cf_defects_24 (F := F) (mem := r0) (S := S') hF hM hT hK hE hkk 18 0 F rfl (by omega)
      have hd : s_R_defects_24 F r0 (zz (rM (σ 3) (σ 4) (σ 5))) (zz (σ 6)) F (nI kk) (nI 0) (nI 0) (bz S') = _ := hd
      have EE : ∀ i, EF (σ 4) (σ 5) (σ 6) S' i = EF (σ 4) (σ 5) (σ 6) (fun j => bt X j = true) i := fun i => EF_congr hSX
      have PP : ∀ b, PF (σ 4) S' b = PF (σ 4) (fun j => bt X j = true) b := fun b => PF_congr hSX
      rcases (show kk = 0 ∨ kk = 1 ∨ kk = 2 ∨ kk = 3 ∨ kk = 4 ∨ kk = 5 by omega) with rfl | rfl | rfl | rfl | rfl | rfl
      · have he : sm (di (σ 3) (σ 4) (σ 5) (σ 6) S' 0) 18 + sm (dbk (σ 3) (σ 4) S' 0) 36 = sm (dE (σ 3) (σ 4) (σ 5) (σ 6) (fun j => bt X j = true)) 18 + sm (dP (σ 3) (σ 4) (fun j => bt X j = true)) 36 := by
          rw [sm_congr (f := di (σ 3) (σ 4) (σ 5) (σ 6) S' 0) (g := dE (σ 3) (σ 4) (σ 5) (σ 6) (fun j => bt X j = true)) (fun i _ => by show dE _ _ _ _ _ _ = _; unfold dE; rw [EE]), sm_congr (f := dbk (σ 3) (σ 4) S' 0) (g := dP (σ 3) (σ 4) (fun j => bt X j = true)) (fun b _ => by show dP _ _ _ _ = _; unfold dP; rw [PP])]
        rw [if_pos rfl, bd_e (cf_badEntries (by omega) hM hT hK hE), bd_e (cf_badPointers hF hM hT), nI_add]
        rw [if_pos (show 0 < 3 by decide), he] at hd
        exact ⟨_, S', rfl, hd⟩
      · have he : sm (di (σ 3) (σ 4) (σ 5) (σ 6) S' 1) 18 + sm (dbk (σ 3) (σ 4) S' 1) 36 = cn (fun b => 2 ≤ b % 12 ∧ 1 < PF (σ 4) (fun j => bt X j = true) b) 36 := by
          rw [sm_congr (f := di (σ 3) (σ 4) (σ 5) (σ 6) S' 1) (g := fun _ => 0) (fun i _ => rfl), sm_0, Nat.zero_add, ← sm_cn]
          exact sm_congr (fun b _ => by show pif _ _ _ = _; rw [PP])
        rw [if_neg (show ¬ nI 1 = nI 0 by decide), if_pos rfl, bd_e (cf_sharedBlocks hF hT)]
        rw [if_pos (show 1 < 3 by decide), he] at hd
        exact ⟨_, S', rfl, hd⟩
      · have he : sm (di (σ 3) (σ 4) (σ 5) (σ 6) S' 2) 18 + sm (dbk (σ 3) (σ 4) S' 2) 36 = cn (fun b => 2 ≤ b % 12 ∧ bm (σ 3) b ≠ 0 ∧ PF (σ 4) (fun j => bt X j = true) b = 0) 36 := by
          rw [sm_congr (f := di (σ 3) (σ 4) (σ 5) (σ 6) S' 2) (g := fun _ => 0) (fun i _ => rfl), sm_0, Nat.zero_add, ← sm_cn]
          exact sm_congr (fun b _ => by show pif _ _ _ = _; rw [PP])
        rw [if_neg (show ¬ nI 2 = nI 0 by decide), if_neg (show ¬ nI 2 = nI 1 by decide), if_pos rfl, bd_e (cf_uselessBlocks hF hM hT)]
        rw [if_pos (show 2 < 3 by decide), he] at hd
        exact ⟨_, S', rfl, hd⟩
      · have he : sm (di (σ 3) (σ 4) (σ 5) (σ 6) S' 3) 18 + 0 = cn (fun i => ¬ bt X i = true ∧ (kd (σ 4) i ≠ 0 ∨ im (σ 3) i ≠ 0)) 18 := by
          rw [Nat.add_zero, ← sm_cn]
          exact sm_congr (fun i hi => by show pif _ _ _ = _; exact pif_congr (and_congr_left' (not_congr (hSX i hi))))
        rw [if_neg (show ¬ nI 3 = nI 0 by decide), if_neg (show ¬ nI 3 = nI 1 by decide), if_neg (show ¬ nI 3 = nI 2 by decide), if_pos rfl, bd_e (cf_uselessInodes (by omega) hM hT)]
        rw [if_neg (show ¬ 3 < 3 by decide), he] at hd
        exact ⟨_, S', rfl, hd⟩
      · have he : sm (di (σ 3) (σ 4) (σ 5) (σ 6) S' 4) 18 + 0 = cn (fun i => 0 < i ∧ bt X i = true ∧ EF (σ 4) (σ 5) (σ 6) (fun j => bt X j = true) i < lk (σ 4) i) 18 := by
          rw [Nat.add_zero, ← sm_cn]
          exact sm_congr (fun i hi => by show pif _ _ _ = _; rw [EE]; exact pif_congr (and_congr_right' (and_congr_left' (hSX i hi))))
        rw [if_neg (show ¬ nI 4 = nI 0 by decide), if_neg (show ¬ nI 4 = nI 1 by decide), if_neg (show ¬ nI 4 = nI 2 by decide), if_neg (show ¬ nI 4 = nI 3 by decide), if_pos rfl, bd_e (cf_wrongLinks (R := fun a b => b < a) (by omega) hT hK hE (fun a b ha hb => (sg_1 ha hb).trans (by omega)))]
        rw [if_neg (show ¬ 4 < 3 by decide), he] at hd
        exact ⟨_, S', rfl, hd⟩
      · have he : sm (di (σ 3) (σ 4) (σ 5) (σ 6) S' 5) 18 + 0 = cn (fun i => 0 < i ∧ bt X i = true ∧ lk (σ 4) i < EF (σ 4) (σ 5) (σ 6) (fun j => bt X j = true) i) 18 := by
          rw [Nat.add_zero, ← sm_cn]
          exact sm_congr (fun i hi => by show pif _ _ _ = _; rw [EE]; exact pif_congr (and_congr_right' (and_congr_left' (hSX i hi))))
        rw [if_neg (show ¬ nI 5 = nI 0 by decide), if_neg (show ¬ nI 5 = nI 1 by decide), if_neg (show ¬ nI 5 = nI 2 by decide), if_neg (show ¬ nI 5 = nI 3 by decide), if_neg (show ¬ nI 5 = nI 4 by decide), if_pos rfl, bd_e (cf_wrongLinks (R := fun a b => a < b) (by omega) hT hK hE (fun a b ha hb => (sg_m ha hb).trans (by omega)))]
        rw [if_neg (show ¬ 5 < 3 by decide), he] at hd
        exact ⟨_, S', rfl, hd⟩
  obtain ⟨r, S'', e1, e2⟩ := key
  exact ⟨r, q', _, e1, e2, σ, Inv_s hI hn, h0, h1, h2, h3, rfl, rfl, rfl, rfl, h8, h9, h10, h11, h12, rfl, rfl, h15, h16, h17, h18, h19, h20, ⟨S'', rfl⟩, hrest⟩
