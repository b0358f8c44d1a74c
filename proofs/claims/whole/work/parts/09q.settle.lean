-- the reference gives back
section SE
variable {n Fu : Nat} {σ : St} {J F N : Nat → Prop} {lf : Nat → Nat}
theorem st_72 {od ct : Nat → Int32} {k4 : Int32 → Int32 → (Nat → Int32) → (Nat → Int32) → (Nat → Int32) → (Nat → Int32) → (Nat → Int32) → Option ((Nat → Int32) × (Nat → Int32) × (Nat → Int32) × (Nat → Int32) × (Nat → Int32))} {fresh : Nat → Int32} {x2 : Int32} (hn : n ≤ 1000) (h : Inw n σ) : ∀ (r i m mv : Nat) (N : Nat → Prop), i + r = 18 → r < m → mv ≤ 1 → GI σ J F N →
    ∃ N' mv', mv' ≤ 1 ∧ mv ≤ mv' ∧ GI σ J F N' ∧ (∀ x, N x → N' x) ∧ (∀ j, i ≤ j → j < 18 → kd (σ 4) j = 0 → J j ∨ σ 9 j = 2 → N' j) ∧ (mv' = 0 → ∀ x, N' x → N x) ∧ (mv' = 1 → mv = 0 → ∃ x, x < 18 ∧ N' x ∧ ¬ N x) ∧ s_R_settle_72 Fu (zz (rM (σ 3) (σ 4) (σ 5))) fresh k4 m (nI mv) x2 (nI i) (zz (app σ J F N 8)) (zz (rM (app σ J F N 0) (rT σ J lf) (σ 2))) (bz (rs σ J N)) od ct = k4 (nI mv') (x2 + nI 1) (zz (app σ J F N' 8)) (zz (rM (app σ J F N' 0) (rT σ J lf) (σ 2))) (bz (rs σ J N')) od ct := by
  intro r
  induction r with
  | zero =>
    intro i m mv N hi hm hmv hG
    obtain ⟨m, rfl⟩ : ∃ q, m = q + 1 := ⟨m - 1, by omega⟩
    refine ⟨N, mv, hmv, Nat.le_refl _, hG, fun _ q => q, fun j h1 h2 => by omega, fun _ _ q => q, fun q1 q2 => by omega, ?_⟩
    unfold s_R_settle_72
    rw [if_pos (nI_le (by omega) (by omega))]
  | succ r ih =>
    intro i m mv N hi hm hmv hG
    obtain ⟨m, rfl⟩ : ∃ q, m = q + 1 := ⟨m - 1, by omega⟩
    have hi18 : i < 18 := by omega
    have hk4 := VT_k (Inw_VT4 h hn) hi18
    have e0 : σ 4 (5 * i + 0) = kd (σ 4) i := rfl
    have skip : (kd (σ 4) i = 0 → J i ∨ σ 9 i = 2 → N i) → ∃ N' mv', mv' ≤ 1 ∧ mv ≤ mv' ∧ GI σ J F N' ∧ (∀ x, N x → N' x) ∧ (∀ j, i ≤ j → j < 18 → kd (σ 4) j = 0 → J j ∨ σ 9 j = 2 → N' j) ∧ (mv' = 0 → ∀ x, N' x → N x) ∧ (mv' = 1 → mv = 0 → ∃ x, x < 18 ∧ N' x ∧ ¬ N x) ∧ s_R_settle_72 Fu (zz (rM (σ 3) (σ 4) (σ 5))) fresh k4 m (nI mv) x2 (nI i + nI 1) (zz (app σ J F N 8)) (zz (rM (app σ J F N 0) (rT σ J lf) (σ 2))) (bz (rs σ J N)) od ct = k4 (nI mv') (x2 + nI 1) (zz (app σ J F N' 8)) (zz (rM (app σ J F N' 0) (rT σ J lf) (σ 2))) (bz (rs σ J N')) od ct := by
      intro hs
      obtain ⟨N', mv', a1, a2, a3, a4, a5, a6, a7, a8⟩ := ih (i + 1) m mv N (by omega) (by omega) hmv hG
      refine ⟨N', mv', a1, a2, a3, a4, fun j h1 h2 h3 h4 => ?_, a6, a7, by rw [nI_add]; exact a8⟩
      by_cases e : j = i
      · subst e; exact a4 j (hs h3 h4)
      · exact a5 j (by omega) h2 h3 h4
    unfold s_R_settle_72
    rw [if_neg (nI_ge (by omega) (by omega)), gr_e i rfl hi18 (by decide)]
    show ∃ N' mv', _ ∧ _ ∧ _ ∧ _ ∧ _ ∧ _ ∧ _ ∧ (if pif (rs σ J N i) (nI 1) (nI 0) = 0 then _ else _) = _
    by_cases hr : rs σ J N i
    · rw [if_neg (fun q => pif01.mp q hr), bd_e (cf_at hi18 (by omega)), rd_t hi18 (by omega), e0]
      by_cases h4 : kd (σ 4) i = 0
      · rw [if_pos (by rw [h4]; rfl), bd_e (cf_markOfInode hi18), ga_e _ rfl (by omega) (by decide), ga_e i rfl hi18 (by decide), nI_clamp (by omega), nI_clamp (by omega), nar0, bz_0, zz_up, up_im hi18, E4 hi18]
        have eb : bz (fun j => rs σ J N j ∧ j ≠ i) = bz (rs σ J (fun j => N j ∨ j = i)) :=
          bz_congr (fun j => ⟨fun q => ⟨fun z => z.elim q.1.1 q.2, q.1.2⟩, fun q => ⟨⟨fun z => q.1 (Or.inl z), q.2⟩, fun z => q.1 (Or.inr z)⟩⟩)
        rw [eb]
        have hG' := GI_N hG hi18 h4 hr.2
        obtain ⟨N', mv', a1, a2, a3, a4, a5, a6, a7, a8⟩ := ih (i + 1) m 1 (fun j => N j ∨ j = i) (by omega) (by omega) (by omega) hG'
        refine ⟨N', mv', a1, by omega, a3, fun x q => a4 x (Or.inl q), fun j h1 h2 h3 h4 => ?_, fun q => by omega, fun _ _ => ⟨i, hi18, a4 i (Or.inr rfl), hr.1⟩, by rw [nI_add]; exact a8⟩
        by_cases e : j = i
        · subst e; exact a4 j (Or.inr rfl)
        · exact a5 j (by omega) h2 h3 h4
      · rw [if_neg (fun q => h4 ((nI0 (by omega)).mp q))]
        exact skip (fun q => absurd q h4)
    · rw [if_pos (pif01.mpr hr)]
      exact skip (fun _ q => Classical.byContradiction fun z => hr ⟨z, q⟩)
theorem st_22 {od ct : Nat → Int32} {k4 : Int32 → Int32 → (Nat → Int32) → (Nat → Int32) → (Nat → Int32) → (Nat → Int32) → (Nat → Int32) → Option ((Nat → Int32) × (Nat → Int32) × (Nat → Int32) × (Nat → Int32) × (Nat → Int32))} {x2 : Int32} (hFu : 18 < Fu) (hn : n ≤ 1000) (h : Inw n σ) : ∀ (r b m mv : Nat) (F : Nat → Prop), b + r = 36 → r < m → mv ≤ 1 → GI σ J F N →
    ∃ F' mv', mv' ≤ 1 ∧ mv ≤ mv' ∧ GI σ J F' N ∧ (∀ x, F x → F' x) ∧ (mv' = 0 → (∀ x, F' x → F x) ∧ ∀ y, b ≤ y → y < 36 → ¬ dn σ y → app σ J F N 8 y = 0) ∧ (mv' = 1 → mv = 0 → ∃ x, x < 36 ∧ F' x ∧ ¬ F x) ∧ ((∀ x, F' x → F x) ∨ ∃ x, x < 36 ∧ F' x ∧ ¬ F x) ∧ s_R_settle_22 Fu (zz (rM (σ 3) (σ 4) (σ 5))) (zz (σ 6)) k4 m (nI mv) x2 (nI b) (zz (app σ J F N 8)) (zz (rM (app σ J F N 0) (rT σ J lf) (σ 2))) (bz (rs σ J N)) od ct = s_R_settle_72 Fu (zz (rM (σ 3) (σ 4) (σ 5))) (zz (σ 6)) k4 Fu (nI mv') x2 (nI 0) (zz (app σ J F' N 8)) (zz (rM (app σ J F' N 0) (rT σ J lf) (σ 2))) (bz (rs σ J N)) od ct := by
  have hT4 := Inw_VT4 h hn
  intro r
  induction r with
  | zero =>
    intro b m mv F hb hm hmv hG
    obtain ⟨m, rfl⟩ : ∃ q, m = q + 1 := ⟨m - 1, by omega⟩
    refine ⟨F, mv, hmv, Nat.le_refl _, hG, fun _ q => q, fun _ => ⟨fun _ q => q, fun y h1 h2 => by omega⟩, fun q1 q2 => by omega, Or.inl (fun _ q => q), ?_⟩
    unfold s_R_settle_22
    rw [if_pos (nI_le (by omega) (by omega))]
  | succ r ih =>
    intro b m mv F hb hm hmv hG
    obtain ⟨m, rfl⟩ : ∃ q, m = q + 1 := ⟨m - 1, by omega⟩
    have hb36 : b < 36 := by omega
    have hle := ap8_le (J := J) (F := F) (N := N) h hb36
    unfold s_R_settle_22
    rw [if_neg (nI_ge (by omega) (by omega)), gr_e b rfl hb36 (by decide)]
    show ∃ F' mv', _ ∧ _ ∧ _ ∧ _ ∧ _ ∧ _ ∧ _ ∧ (if nI (app σ J F N 8 b) ≤ 0 then _ else _) = _
    by_cases hv : app σ J F N 8 b = 0
    · rw [if_pos (by rw [hv]; decide), nI_add]
      obtain ⟨F', mv', a1, a2, a3, a4, a5, a6, a8, a7⟩ := ih (b + 1) m mv F (by omega) (by omega) hmv hG
      refine ⟨F', mv', a1, a2, a3, a4, fun q => ⟨(a5 q).1, fun y h1 h2 h3 => ?_⟩, a6, a8, a7⟩
      by_cases e : y = b
      · subst e; exact hv
      · exact (a5 q).2 y (by omega) h2 h3
    · rw [if_neg (nI_nle (by omega) (by omega)), bd_e (cf_namedOnDisk hFu hT4 (by omega))]
      by_cases hd : ∃ i k', i < 18 ∧ k' < 3 ∧ pt (σ 4) i k' = b
      · rw [if_neg (fun q => pif01.mp q hd), nI_add]
        obtain ⟨F', mv', a1, a2, a3, a4, a5, a6, a8, a7⟩ := ih (b + 1) m mv F (by omega) (by omega) hmv hG
        refine ⟨F', mv', a1, a2, a3, a4, fun q => ⟨(a5 q).1, fun y h1 h2 h3 => ?_⟩, a6, a8, a7⟩
        by_cases e : y = b
        · subst e; exact absurd hd h3
        · exact (a5 q).2 y (by omega) h2 h3
      · obtain ⟨o1, o2, o3⟩ := ap8_own h hb36 hv
        have hb0 : 0 < b := by have := o2.2; omega
        have hG' := GI_F hG hb0 hb36 hd o3
        rw [if_pos (pif01.mpr hd), bd_e (cf_markOfBlock hb36), ga_e _ rfl (by omega) (by decide), ga_e b rfl hb36 (by decide), nI_clamp (by omega), nI_clamp (by omega), zz_up, zz_up, up_bm o2, E7 o2, E6, nI_add]
        obtain ⟨F', mv', a1, a2, a3, a4, a5, a6, a8, a7⟩ := ih (b + 1) m 1 (fun x => F x ∨ x = b) (by omega) (by omega) (by omega) hG'
        exact ⟨F', mv', a1, by omega, a3, fun x q => a4 x (Or.inl q), fun q => by omega, fun _ _ => ⟨b, hb36, a4 b (Or.inr rfl), o1⟩, Or.inr ⟨b, hb36, a4 b (Or.inr rfl), o1⟩, a7⟩
-- the whole of count
theorem UF_0 (h : Inw n σ) {i : Nat} (hi : i = 0 ∨ 18 ≤ i ∨ kd (σ 1) i = 0) : UF σ F i = 0 := by
  refine cn_zero.mpr (fun q hq z => ?_)
  have := Inw_V12 h q hq z.2.1 z.2.2.1
  rw [z.2.2.2] at this
  have a := this.1.2.2.1
  have b := this.1.2.2.2
  rw [z.2.2.2] at a b
  rcases hi with e | e | e
  · omega
  · omega
  · exact this.2.1 e
theorem UF_288 {i : Nat} : UF σ F i ≤ 288 := cn_le
theorem cw_288 {i : Nat} : cw σ F i ≤ 288 := cn_le
end SE
