-- the reference's falls of what is owed no more
def rs (σ : St) (J N : Nat → Prop) (i : Nat) : Prop := ¬ N i ∧ (J i ∨ σ 9 i = 2)
section FA
variable {n Fu : Nat} {σ : St} {J F N : Nat → Prop} {lf C : Nat → Nat}
theorem up_bd {i v : Nat} (h : ∀ j, j < 18 → lf j < 2 ^ 30) (hv : v < 2 ^ 30) : ∀ j, j < 18 → up lf i v j < 2 ^ 30 := by
  intro j hj
  by_cases e : j = i
  · subst e; rw [up_s]; exact hv
  · rw [up_n e]; exact h j hj
theorem rT_low {i v : Nat} : up (rT σ J lf) (5 * i + 1) v = rT σ J (up lf i v) := by
  funext m
  by_cases e : m = 5 * i + 1
  · subst e; rw [up_s]; unfold rT; rw [if_pos (by omega), show (5 * i + 1) / 5 = i by omega, up_s]
  · rw [up_n e]; unfold rT
    by_cases h : m % 5 = 1
    · rw [if_pos h, if_pos h, up_n (by omega)]
    · rw [if_neg h, if_neg h]
theorem rT_rel {i : Nat} : up (dT (rT σ J lf) i 0 3) (5 * i) 0 = rT σ (fun j => J j ∨ j = i) lf := by
  funext m
  by_cases e : m = 5 * i
  · subst e; rw [up_s]; unfold rT; rw [if_neg (by omega), pif_t (Or.inr (by omega))]
  · rw [up_n e]; unfold dT
    by_cases h : m / 5 = i ∧ 2 + 0 ≤ m % 5 ∧ m % 5 < 2 + 3
    · rw [if_pos h]; unfold rT; rw [if_neg (by omega), pif_t (Or.inr h.1)]
    · rw [if_neg h]; unfold rT
      by_cases h1 : m % 5 = 1
      · rw [if_pos h1, if_pos h1]
      · rw [if_neg h1, if_neg h1]
        exact pif_congr ⟨Or.inl, fun z => z.resolve_right (fun q => by omega)⟩
theorem dD_rT {D : Nat → Nat} {i : Nat} : dD (rT σ J lf) D i 0 3 = dD (app σ J F N 1) D i 0 3 := by
  funext b
  unfold dD
  rw [rT_kd, ap_kd]
  refine pif_congr (and_congr_right' ⟨fun ⟨k, a, b, c⟩ => ⟨k, a, b, ?_⟩, fun ⟨k, a, b, c⟩ => ⟨k, a, b, ?_⟩⟩)
  · rw [← c, rT_pt b, ap_pt b]
  · rw [← c, rT_pt b, ap_pt b]
theorem rs_J {i : Nat} (hN : ¬ N i) : bz (fun j => rs σ J N j ∨ j = i) = bz (rs σ (fun j => J j ∨ j = i) N) := by
  refine bz_congr (fun j => ⟨fun q => ?_, fun q => ?_⟩)
  · rcases q with q | q
    · exact ⟨q.1, q.2.imp_left Or.inl⟩
    · subst q; exact ⟨hN, Or.inl (Or.inr rfl)⟩
  · rcases q.2 with (z | z) | z
    · exact Or.inl ⟨q.1, Or.inl z⟩
    · exact Or.inr z
    · exact Or.inl ⟨q.1, Or.inr z⟩
theorem ft_144 {A O : Nat → Nat} {k131 : Int32 → Int32 → (Nat → Int32) → (Nat → Int32) → (Nat → Int32) → (Nat → Int32) → (Nat → Int32) → Option (Int32 × (Nat → Int32) × (Nat → Int32) × (Nat → Int32) × (Nat → Int32) × (Nat → Int32))} {dsk fresh : Nat → Int32} {i : Nat} (hFu : 3 < Fu) (hn : n ≤ 1000) (h : Inw n σ) (hi : i < 18) (hC : C i < 2 ^ 29) (hG : GI σ J F N) : ∀ (f m : Nat) (lf : Nat → Nat) (mv k : Nat), (k = C i + f ∨ (f = 0 ∧ k ≤ C i)) → f < m → f < 2 ^ 29 → (∀ j, j < 18 → lf j < 2 ^ 30) → (0 < f → 0 < i ∧ kd (σ 1) i ≠ 0 ∧ ¬ J i) → lf i = (lk (σ 1) i - UF σ F i) + f →
    ∃ J' mv', GI σ J' F N ∧ (∀ j, J j → J' j) ∧ (0 < f → lk (σ 1) i ≤ UF σ F i → J' i) ∧ (∀ j, J' j → J j ∨ (j = i ∧ 0 < f)) ∧ mv' = (if f = 0 then mv else 1) ∧ s_R_count_144 Fu dsk fresh k131 m (nI mv) (nI i) (nI k) (zz (app σ J F N 8)) (zz (rM A (rT σ J lf) (σ 2))) (bz (rs σ J N)) (zz O) (zz C) = k131 (nI mv') (nI (i + 1)) (zz (app σ J' F N 8)) (zz (rM A (rT σ J' (up lf i (lk (σ 1) i - UF σ F i))) (σ 2))) (bz (rs σ J' N)) (zz (up O i (C i))) (zz C) := by
  have hT1 := Inw_VT1 h hn
  intro f
  induction f with
  | zero =>
    intro m lf mv k hkk hm _ hlf hz hl
    obtain ⟨m, rfl⟩ : ∃ q, m = q + 1 := ⟨m - 1, by omega⟩
    refine ⟨J, mv, hG, fun _ q => q, fun q => absurd q (Nat.lt_irrefl _), fun _ q => Or.inl q, rfl, ?_⟩
    unfold s_R_count_144
    rw [gr_e i rfl hi (by decide), gr_e i rfl hi (by decide)]
    show (if nI k ≤ nI (C i) then _ else _) = _
    rw [if_pos (nI_le (by omega) (by omega)), ga_e i rfl hi (by decide), nI_clamp (by omega), nI_add]
    have e1 : up lf i (lk (σ 1) i - UF σ F i) = lf := by
      funext j
      by_cases e : j = i
      · subst e; rw [up_s, hl]; rfl
      · rw [up_n e]
    rw [e1]
    show k131 _ _ _ _ _ (upd (zz O) i (nI (C i))) _ = _
    rw [zz_up]
  | succ f ih =>
    intro m lf mv k hkk hm hf hlf hz hl
    have hkk : k = C i + (f + 1) := hkk.elim id (fun z => by omega)
    subst hkk
    obtain ⟨m, rfl⟩ : ∃ q, m = q + 1 := ⟨m - 1, by omega⟩
    obtain ⟨h0, hk, hJ⟩ := hz (by omega)
    have hli := hlf i hi
    have hTr := rT_VT (J := J) hT1 hlf
    have hkr : kd (rT σ J lf) i = 1 ∨ kd (rT σ J lf) i = 2 := by rw [rT_kd, pif_f hJ]; have := VT_k hT1 hi; omega
    have hN : ¬ N i := fun q => ((hG.2.2.1 i q).2.2).elim hJ (fun z => hk (Inw_V18 h i hi z).1)
    unfold s_R_count_144
    rw [gr_e i rfl hi (by decide)]
    show ∃ J' mv', _ ∧ _ ∧ _ ∧ _ ∧ _ ∧ (if nI (C i + (f + 1)) ≤ nI (C i) then _ else _) = _
    rw [if_neg (nI_ge (by omega) (by omega)), bd_e (cf_fall hFu hTr hi hkr (by rw [rT_lk]; omega)), rT_lk]
    by_cases h1 : lf i = 1
    · have hf0 : f = 0 := by omega
      have hle : lk (σ 1) i ≤ UF σ F i := by omega
      subst hf0
      have hfl : fl σ F i := ⟨h0, hi, hk, hle⟩
      have hkk : kd (σ 1) i = 1 ∨ kd (σ 1) i = 2 := by have := VT_k hT1 hi; omega
      obtain ⟨m, rfl⟩ : ∃ q, m = q + 1 := ⟨m - 1, by omega⟩
      refine ⟨fun j => J j ∨ j = i, 1, GI_J hG hfl, fun j => Or.inl, fun _ _ => Or.inr rfl, fun j q => q.imp_right (fun e => ⟨e, by omega⟩), rfl, ?_⟩
      rw [if_pos h1, rT_low, rT_rel, dD_rT (F := F) (N := N), E2 hi hJ hkk h.2.2.1.1 (Inw_V6 h) (fun j q => (hG.1 j q).2.1) (fun b q => (hG.2.1 b q).2.2.2), rs_J hN]
      show s_R_count_144 Fu dsk fresh k131 (m + 1) (nI 1) (nI i) (nI (C i + (0 + 1)) + -1) _ _ _ _ _ = _
      unfold s_R_count_144
      rw [gr_e i rfl hi (by decide), gr_e i rfl hi (by decide)]
      show (if nI (C i + (0 + 1)) + -1 ≤ nI (C i) then _ else _) = _
      rw [show C i + (0 + 1) = C i + 1 by omega, pk_m1, if_pos (nI_le (by omega) (by omega)), ga_e i rfl hi (by decide), nI_clamp (by omega), nI_add, show lk (σ 1) i - UF σ F i = 0 by omega]
      show k131 _ _ _ _ _ (upd (zz O) i (nI (C i))) _ = _
      rw [zz_up]
    · rw [if_neg h1, rT_low]
      show ∃ J' mv', _ ∧ _ ∧ _ ∧ _ ∧ _ ∧ s_R_count_144 Fu dsk fresh k131 m (nI 1) (nI i) (nI (C i + (f + 1)) + -1) _ _ _ _ _ = _
      rw [show C i + (f + 1) = C i + f + 1 by omega, pk_m1]
      by_cases hf0 : f = 0
      · subst hf0
        obtain ⟨J', mv', a1, a2, a3, a4, a5, a6⟩ := ih m (up lf i (lf i - 1)) 1 (C i + 0) (Or.inl rfl) (by omega) (by omega) (up_bd hlf (by omega)) (fun q => absurd q (Nat.lt_irrefl _)) (by rw [up_s]; omega)
        refine ⟨J', mv', a1, a2, fun _ q => by omega, fun j q => (a4 j q).imp_right (fun z => ⟨z.1, by omega⟩), ?_, ?_⟩
        · rw [a5, if_pos rfl, if_neg (by omega)]
        · rw [a6]
          have e2 : up (up lf i (lf i - 1)) i (lk (σ 1) i - UF σ F i) = up lf i (lk (σ 1) i - UF σ F i) := by
            funext j; by_cases e : j = i
            · subst e; rw [up_s, up_s]
            · rw [up_n e, up_n e, up_n e]
          rw [e2]
      · obtain ⟨J', mv', a1, a2, a3, a4, a5, a6⟩ := ih m (up lf i (lf i - 1)) 1 (C i + f) (Or.inl rfl) (by omega) (by omega) (up_bd hlf (by omega)) (fun _ => ⟨h0, hk, hJ⟩) (by rw [up_s]; omega)
        refine ⟨J', mv', a1, a2, fun _ q => a3 (by omega) q, fun j q => (a4 j q).imp_right (fun z => ⟨z.1, by omega⟩), ?_, ?_⟩
        · rw [a5, if_neg hf0, if_neg (by omega)]
        · rw [a6]
          have e2 : up (up lf i (lf i - 1)) i (lk (σ 1) i - UF σ F i) = up lf i (lk (σ 1) i - UF σ F i) := by
            funext j; by_cases e : j = i
            · subst e; rw [up_s, up_s]
            · rw [up_n e, up_n e, up_n e]
          rw [e2]
theorem ft_131 {A : Nat → Nat} {dsk fresh : Nat → Int32} {f : Nat → Nat} (hFu : 300 < Fu) (hn : n ≤ 1000) (h : Inw n σ) (hC : ∀ i, i < 18 → C i < 2 ^ 29) (hf : ∀ i, i < 18 → f i < 300) (hz : ∀ i, i < 18 → 0 < f i → 0 < i ∧ kd (σ 1) i ≠ 0) : ∀ (r i m : Nat) (J : Nat → Prop) (lf O : Nat → Nat) (mv : Nat), i + r = 18 → r < m → mv ≤ 1 → GI σ J F N → (∀ j, j < 18 → lf j < 2 ^ 30) → (∀ j, i ≤ j → j < 18 → 0 < f j → ¬ J j) → (∀ j, i ≤ j → j < 18 → (O j = C j + f j ∨ (f j = 0 ∧ O j ≤ C j)) ∧ lf j = (lk (σ 1) j - UF σ F j) + f j) → (∀ j, j < i → O j = C j ∧ lf j = lk (σ 1) j - UF σ F j) →
    ∃ J' mv' lf' O', GI σ J' F N ∧ (∀ j, J j → J' j) ∧ (∀ j, i ≤ j → j < 18 → 0 < f j → lk (σ 1) j ≤ UF σ F j → J' j) ∧ (∀ j, J' j → J j ∨ (j < 18 ∧ 0 < f j)) ∧ mv' ≤ 1 ∧ (mv' = 0 → mv = 0 ∧ ∀ j, i ≤ j → j < 18 → f j = 0) ∧ ((mv = 0 ∧ ∀ j, i ≤ j → j < 18 → f j = 0) → mv' = 0) ∧ (∀ j, j < 18 → O' j = C j ∧ lf' j = lk (σ 1) j - UF σ F j) ∧ (∀ j, 18 ≤ j → O' j = O j ∧ lf' j = lf j) ∧ s_R_count_131 Fu dsk fresh m (nI mv) (nI i) (zz (app σ J F N 8)) (zz (rM A (rT σ J lf) (σ 2))) (bz (rs σ J N)) (zz O) (zz C) = some (nI mv', zz (app σ J' F N 8), zz (rM A (rT σ J' lf') (σ 2)), bz (rs σ J' N), zz O', zz C) := by
  intro r
  induction r with
  | zero =>
    intro i m J lf O mv hi hm hmv hG hlf hJ hO hO2
    obtain ⟨m, rfl⟩ : ∃ q, m = q + 1 := ⟨m - 1, by omega⟩
    refine ⟨J, mv, lf, O, hG, fun _ q => q, fun j h1 h2 => by omega, fun _ q => Or.inl q, hmv, fun q => ⟨q, fun j h1 h2 => by omega⟩, fun q => q.1, fun j hj => hO2 j (by omega), fun j _ => ⟨rfl, rfl⟩, ?_⟩
    unfold s_R_count_131
    rw [if_pos (nI_le (by omega) (by omega)), gz_e]
    rcases (show mv = 0 ∨ mv = 1 by omega) with rfl | rfl
    · exact Or.inl rfl
    · exact Or.inr rfl
  | succ r ih =>
    intro i m J lf O mv hi hm hmv hG hlf hJ hO hO2
    obtain ⟨m, rfl⟩ : ∃ q, m = q + 1 := ⟨m - 1, by omega⟩
    have hi18 : i < 18 := by omega
    have hf300 := hf i hi18
    have hOi := hO i (Nat.le_refl _) hi18
    obtain ⟨J1, mv1, a1, a2, a3, a4, a5, a6⟩ := ft_144 (Fu := Fu) (A := A) (O := O) (dsk := dsk) (fresh := fresh) (k131 := s_R_count_131 Fu dsk fresh m) (by omega) hn h hi18 (hC i hi18) hG (f i) Fu lf mv (O i) hOi.1 (by omega) (by omega) hlf (fun q => ⟨(hz i hi18 q).1, (hz i hi18 q).2, hJ i (Nat.le_refl _) hi18 q⟩) hOi.2
    have hlk : lk (σ 1) i < 2 ^ 30 := (Inw_VT1 h hn i hi18).2.1
    obtain ⟨J', mv', lf', O', b1, b2, b3, b4, b5, b6, b7, b8, b9, b10⟩ := ih (i + 1) m J1 (up lf i (lk (σ 1) i - UF σ F i)) (up O i (C i)) mv1 (by omega) (by omega) (by rw [a5]; split <;> omega) a1
      (up_bd hlf (by omega))
      (fun j h1 h2 h3 q => ((a4 j q).elim (hJ j (by omega) h2 h3) (fun z => by omega)))
      (fun j h1 h2 => by rw [up_n (by omega), up_n (by omega)]; exact hO j (by omega) h2)
      (fun j h1 => by by_cases e : j = i
                      · subst e; rw [up_s, up_s]; exact ⟨rfl, rfl⟩
                      · rw [up_n e, up_n e]; exact hO2 j (by omega))
    refine ⟨J', mv', lf', O', b1, fun j q => b2 j (a2 j q), fun j h1 h2 h3 h4 => ?_, fun j q => ?_, b5, fun q => ?_, fun q => ?_, b8, fun j hj => ?_, ?_⟩
    · by_cases e : j = i
      · subst e; exact b2 j (a3 h3 h4)
      · exact b3 j (by omega) h2 h3 h4
    · rcases b4 j q with z | z
      · rcases a4 j z with y | ⟨y1, y2⟩
        · exact Or.inl y
        · subst y1; exact Or.inr ⟨hi18, y2⟩
      · exact Or.inr z
    · obtain ⟨c1, c2⟩ := b6 q
      rw [a5] at c1
      by_cases e : f i = 0
      · rw [if_pos e] at c1
        refine ⟨c1, fun j h1 h2 => ?_⟩
        by_cases ej : j = i
        · subst ej; exact e
        · exact c2 j (by omega) h2
      · rw [if_neg e] at c1; cases c1
    · refine b7 ⟨?_, fun j h1 h2 => q.2 j (by omega) h2⟩
      rw [a5, if_pos (q.2 i (Nat.le_refl _) hi18)]; exact q.1
    · have := b9 j hj
      rw [up_n (by omega), up_n (by omega)] at this; exact this
    · unfold s_R_count_131
      rw [if_neg (nI_ge (by omega) (by omega)), gr_e i rfl hi18 (by decide)]
      show s_R_count_144 Fu dsk fresh (s_R_count_131 Fu dsk fresh m) Fu (nI mv) (nI i) (nI (O i)) _ _ _ _ _ = _
      rw [a6]
      exact b10
end FA
