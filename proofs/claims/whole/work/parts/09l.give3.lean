-- giving back, the class: what holds along the way
section GV
variable {n Fu : Nat} {σ : St} {J F N : Nat → Prop}
theorem Inw_VT1 (h : Inw n σ) (hn : n ≤ 1000) : VT (σ 1) := VX_VT h.1.1 h.2.2.2.2.1.1 hn
theorem Inw_VT4 (h : Inw n σ) (hn : n ≤ 1000) : VT (σ 4) := VX_VT h.1.2 h.2.2.2.2.1.2 hn
theorem Inw_V5 (h : Inw n σ) : V5 σ := h.2.2.2.2.2.1
theorem Inw_V6 (h : Inw n σ) : V6 σ := h.2.2.2.2.2.2.1
theorem Inw_V7 (h : Inw n σ) : V7 σ := h.2.2.2.2.2.2.2.1
theorem Inw_V8 (h : Inw n σ) : V8 σ := h.2.2.2.2.2.2.2.2.1
theorem Inw_V10 (h : Inw n σ) : V10 σ := h.2.2.2.2.2.2.2.2.2.1
theorem Inw_V11 (h : Inw n σ) : V11 σ := h.2.2.2.2.2.2.2.2.2.2.1
theorem Inw_V12 (h : Inw n σ) : V12 σ := h.2.2.2.2.2.2.2.2.2.2.2.1
theorem Inw_V13 (h : Inw n σ) : V13 σ := h.2.2.2.2.2.2.2.2.2.2.2.2.1
theorem Inw_V14 (h : Inw n σ) : V14 σ := h.2.2.2.2.2.2.2.2.2.2.2.2.2.1
theorem Inw_V15 (h : Inw n σ) : V15 σ := h.2.2.2.2.2.2.2.2.2.2.2.2.2.2.1
theorem Inw_V16 (h : Inw n σ) : V16 σ := h.2.2.2.2.2.2.2.2.2.2.2.2.2.2.2.1
theorem Inw_V17 (h : Inw n σ) : V17 σ := h.2.2.2.2.2.2.2.2.2.2.2.2.2.2.2.2.1
theorem Inw_V18 (h : Inw n σ) : V18 σ := h.2.2.2.2.2.2.2.2.2.2.2.2.2.2.2.2.2.1
theorem Inw_V19 (h : Inw n σ) : V19 σ := h.2.2.2.2.2.2.2.2.2.2.2.2.2.2.2.2.2.2.1
theorem Inw_V20 (h : Inw n σ) : V20 σ := h.2.2.2.2.2.2.2.2.2.2.2.2.2.2.2.2.2.2.2
-- what a cell on the disk names
theorem gb_in (h : Inw n σ) {b i : Nat} (hb : b < 36) (hD : DB σ b) (hg : 0 < gb σ b i 8) : 0 < i ∧ i < 18 ∧ kd (σ 1) i ≠ 0 := by
  obtain ⟨c, hc, h1, h2⟩ := cn_pos.mp hg
  have := Inw_V12 h (8 * b + c) (by omega) (by rw [show (8 * b + c) / 8 = b by omega]; exact hD) h1
  rw [h2] at this
  exact ⟨by have := this.1.2.2.1; omega, by have := this.1.2.2.2; omega, this.2.1⟩
theorem UF_lk (h : Inw n σ) {i : Nat} (h0 : 0 < i) (h1 : i < 18) (hk : kd (σ 1) i ≠ 0) : UF σ F i ≤ lk (σ 1) i := Nat.le_trans UF_le (Inw_V15 h i h0 h1 hk)
theorem gb_lk (h : Inw n σ) {b i : Nat} (hb : b < 36) (hD : DB σ b) (hF : ¬ F b) (h0 : 0 < i) (h1 : i < 18) : gb σ b i 8 ≤ lk (σ 1) i - UF σ F i := by
  by_cases hg : 0 < gb σ b i 8
  · have hk := (gb_in h hb hD hg).2.2
    have := UF_lk (F := fun x => F x ∨ x = b) h h0 h1 hk
    rw [UF_add hb hD hF] at this
    omega
  · omega
theorem gi_JN (h : Inw n σ) (hG : GI σ J F N) {b i : Nat} (hb : b < 36) (hD : DB σ b) (hF : ¬ F b) (hg : 0 < gb σ b i 8) : 0 < i ∧ i < 18 ∧ kd (σ 1) i ≠ 0 ∧ ¬ J i ∧ ¬ N i := by
  obtain ⟨h0, h1, hk⟩ := gb_in h hb hD hg
  have hJ : ¬ J i := by
    intro j
    have := (hG.1 i j).2.2.2
    have := gb_lk h hb hD hF h0 h1
    omega
  refine ⟨h0, h1, hk, hJ, fun q => ?_⟩
  rcases (hG.2.2.1 i q).2.2 with z | z
  · exact hJ z
  · exact hk (Inw_V18 h i h1 z).1
theorem UF_mono2 {F' : Nat → Prop} {i : Nat} (h : ∀ b, F b → F' b) (hf : fl σ F i) : fl σ F' i := ⟨hf.1, hf.2.1, hf.2.2.1, Nat.le_trans hf.2.2.2 (UF_mono h)⟩
theorem GI_J (hG : GI σ J F N) {i : Nat} (hf : fl σ F i) : GI σ (fun j => J j ∨ j = i) F N := by
  obtain ⟨g1, g2, g3, g4, g5⟩ := hG
  refine ⟨fun j q => q.elim (g1 j) (fun e => e ▸ hf), fun b q => ⟨(g2 b q).1, (g2 b q).2.1, (g2 b q).2.2.1, (g2 b q).2.2.2.imp_right (fun ⟨x, k, a, b, c, d⟩ => ⟨x, k, a, b, Or.inl c, d⟩)⟩, fun j q => ⟨(g3 j q).1, (g3 j q).2.1, (g3 j q).2.2.imp_left Or.inl⟩, fun j q => q.elim (g4 j) (fun e => ?_), g5⟩
  subst e
  exact (Cl_s σ).1 j hf.1 hf.2.1 hf.2.2.1 (Nat.le_trans hf.2.2.2 (UF_mono g5))
theorem GI_N (hG : GI σ J F N) {i : Nat} (hi : i < 18) (h4 : kd (σ 4) i = 0) (hj : J i ∨ σ 9 i = 2) : GI σ J F (fun j => N j ∨ j = i) := by
  obtain ⟨g1, g2, g3, g4, g5⟩ := hG
  exact ⟨g1, g2, fun j q => q.elim (g3 j) (fun e => e ▸ ⟨hi, h4, hj⟩), g4, g5⟩
theorem GI_F (hG : GI σ J F N) {b : Nat} (h0 : 0 < b) (hb : b < 36) (hd : ¬ dn σ b) (ho : σ 8 b ≠ 0 ∨ ∃ i k, i < 18 ∧ k < 3 ∧ J i ∧ pt (σ 1) i k = b) : GI σ J (fun x => F x ∨ x = b) N := by
  obtain ⟨g1, g2, g3, g4, g5⟩ := hG
  refine ⟨fun j q => UF_mono2 (fun x => Or.inl) (g1 j q), fun x q => q.elim (g2 x) (fun e => e ▸ ⟨h0, hb, hd, ho⟩), g3, g4, fun x q => q.elim (g5 x) (fun e => ?_)⟩
  subst e
  exact (Cl_s σ).2 x h0 hb hd (ho.imp_right (fun ⟨i, k, a, b, c, d⟩ => ⟨i, k, a, b, g4 i c, d⟩))
-- one inode
theorem gv_inode33 {i : Nat} (hi : i < 18) (hT4 : VT (σ 4)) (hG : GI σ J F N) (hj : J i ∨ σ 9 i = 2) : ∃ N', GI σ J F N' ∧ (∀ j, N j → N' j) ∧ (kd (σ 4) i = 0 → N' i) ∧ s_V_giveInodeBack_33 Fu (zz (σ 4)) (nI i) (zz (app σ J F N 0)) (zz (app σ J F N 1)) (zz (app σ J F N 8)) (zz (app σ J F N 9)) = some (zz (app σ J F N' 0), zz (app σ J F N' 1), zz (app σ J F N' 8), zz (app σ J F N' 9)) := by
  have hk := VT_k hT4 hi
  unfold s_V_giveInodeBack_33
  rw [bd_e (cf_kind hi)]
  by_cases h4 : kd (σ 4) i = 0
  · rw [if_pos (by rw [h4]; rfl), bd_e (cf_setInodeMark hi), ga_e i rfl hi (by decide), nI_clamp (by omega), zz_up, E4 hi, E5]
    exact ⟨_, GI_N hG hi h4 hj, fun j => Or.inl, fun _ => Or.inr rfl, rfl⟩
  · rw [if_neg (fun q => h4 ((nI0 (by omega)).mp q))]
    exact ⟨N, hG, fun _ q => q, fun q => absurd q h4, rfl⟩
theorem gv_inode {i : Nat} (hF : 3 < Fu) (hn : n ≤ 1000) (h : Inw n σ) (h9 : V9 σ) (hi : i < 18) (hG : GI σ J F N) (hv : app σ J F N 9 i ≠ 0) : ∃ J' N', GI σ J' F N' ∧ (∀ j, J j → J' j) ∧ (∀ j, N j → N' j) ∧ (fl σ F i → J' i) ∧ (kd (σ 4) i = 0 → J' i ∨ σ 9 i = 2 → N' i) ∧ (∀ j, J' j → J j ∨ j = i) ∧ s_V_giveInodeBack Fu (zz (σ 4)) (nI i) (zz (app σ J F N 0)) (zz (app σ J F N 1)) (zz (app σ J F N 8)) (zz (app σ J F N 9)) = some (zz (app σ J' F N' 0), zz (app σ J' F N' 1), zz (app σ J' F N' 8), zz (app σ J' F N' 9)) := by
  have hT1 := Inw_VT1 h hn
  have hT4 := Inw_VT4 h hn
  have e9 : app σ J F N 9 i = pif (N i) 0 (pif (J i) 2 (pif (fl σ F i) 1 (σ 9 i))) := rfl
  have hN : ¬ N i := fun q => hv (by rw [e9, pif_t q])
  unfold s_V_giveInodeBack
  rw [gr_e i rfl hi (by decide)]
  show ∃ J' N', _ ∧ _ ∧ _ ∧ _ ∧ _ ∧ _ ∧ (if nI (app σ J F N 9 i) = nI 1 then _ else _) = _
  rw [e9, pif_f hN]
  by_cases hJ : J i
  · rw [pif_t hJ, if_neg (show ¬ nI 2 = nI 1 by decide)]
    obtain ⟨N', a, b, c, d⟩ := gv_inode33 (Fu := Fu) hi hT4 hG (Or.inl hJ)
    exact ⟨J, N', a, fun _ q => q, b, fun _ => hJ, fun q _ => c q, fun _ => Or.inl, d⟩
  · rw [pif_f hJ]
    by_cases hf : fl σ F i
    · rw [pif_t hf, if_pos rfl, bd_e (cf_dropPointers hF (ap_VT hT1) hi (by omega))]
      show ∃ J' N', _ ∧ _ ∧ _ ∧ _ ∧ _ ∧ _ ∧ bd (s_S_setKind (nI i) (nI 0) (zz (dT (app σ J F N 1) i 0 3))) _ = _
      have hk : kd (σ 1) i = 1 ∨ kd (σ 1) i = 2 := by have := hf.2.2.1; have := VT_k hT1 hi; omega
      rw [bd_e (cf_setKind hi), E1 hJ, E2 hi hJ hk h.2.2.1.1 (Inw_V6 h) (fun j q => (hG.1 j q).2.1) (fun b q => (hG.2.1 b q).2.2.2), ga_e i rfl hi (by decide), nI_clamp (by omega), zz_up, E3 hN]
      have hG' := GI_J hG hf
      obtain ⟨N', a, b, c, d⟩ := gv_inode33 (Fu := Fu) hi hT4 hG' (Or.inl (Or.inr rfl))
      exact ⟨_, N', a, fun j => Or.inl, b, fun _ => Or.inr rfl, fun q _ => c q, fun j q => q, d⟩
    · rw [pif_f hf]
      have h2 : σ 9 i = 2 := by
        rw [e9, pif_f hN, pif_f hJ, pif_f hf] at hv
        exact (h9 i hi).resolve_left hv
      rw [h2, if_neg (show ¬ nI 2 = nI 1 by decide)]
      obtain ⟨N', a, b, c, d⟩ := gv_inode33 (Fu := Fu) hi hT4 hG (Or.inr h2)
      exact ⟨J, N', a, fun _ q => q, b, fun q => absurd q hf, fun q _ => c q, fun _ => Or.inl, d⟩
-- the loop over the inodes
theorem gv_19 {k4 : Int32 → Int32 → (Nat → Int32) → (Nat → Int32) → (Nat → Int32) → (Nat → Int32) → Option ((Nat → Int32) × (Nat → Int32) × (Nat → Int32) × (Nat → Int32))} {x1 x2 : Int32} (hF : 3 < Fu) (hn : n ≤ 1000) (h : Inw n σ) (h9 : V9 σ) : ∀ (r i m : Nat) (J N : Nat → Prop), i + r = 18 → r < m → GI σ J F N → (∀ j, j < i → (fl σ F j → J j) ∧ (kd (σ 4) j = 0 → J j ∨ σ 9 j = 2 → N j)) →
    ∃ J' N', GI σ J' F N' ∧ (∀ j, j < 18 → (fl σ F j → J' j) ∧ (kd (σ 4) j = 0 → J' j ∨ σ 9 j = 2 → N' j)) ∧ s_V_giveBack_19 Fu (zz (σ 4)) (zz (σ 5)) (zz (σ 6)) k4 m x1 x2 (nI i) (zz (app σ J F N 0)) (zz (app σ J F N 1)) (zz (app σ J F N 8)) (zz (app σ J F N 9)) = s_V_giveBack_47 Fu (zz (σ 4)) (zz (σ 5)) (zz (σ 6)) k4 Fu x1 x2 (nI 0) (zz (app σ J' F N' 0)) (zz (app σ J' F N' 1)) (zz (app σ J' F N' 8)) (zz (app σ J' F N' 9)) := by
  intro r
  induction r with
  | zero =>
    intro i m J N hi hm hG hP
    obtain ⟨m, rfl⟩ : ∃ q, m = q + 1 := ⟨m - 1, by omega⟩
    refine ⟨J, N, hG, fun j hj => hP j (by omega), ?_⟩
    unfold s_V_giveBack_19
    rw [if_pos (nI_le (by omega) (by omega))]
  | succ r ih =>
    intro i m J N hi hm hG hP
    obtain ⟨m, rfl⟩ : ∃ q, m = q + 1 := ⟨m - 1, by omega⟩
    have hi18 : i < 18 := by omega
    have e9 : app σ J F N 9 i = pif (N i) 0 (pif (J i) 2 (pif (fl σ F i) 1 (σ 9 i))) := rfl
    have hle : app σ J F N 9 i < 2 ^ 31 := by
      rw [e9]
      by_cases a : N i
      · rw [pif_t a]; omega
      · rw [pif_f a]
        by_cases b : J i
        · rw [pif_t b]; omega
        · rw [pif_f b]
          by_cases c : fl σ F i
          · rw [pif_t c]; omega
          · rw [pif_f c]; rcases h9 i hi18 with z | z <;> omega
    unfold s_V_giveBack_19
    rw [if_neg (nI_ge (by omega) (by omega)), gr_e i rfl hi18 (by decide)]
    show ∃ J' N', _ ∧ _ ∧ (if nI (app σ J F N 9 i) = 0 then _ else _) = _
    by_cases hv : app σ J F N 9 i = 0
    · rw [if_pos (by rw [hv]; rfl), nI_add]
      refine ih (i + 1) m J N (by omega) (by omega) hG (fun j hj => ?_)
      by_cases e : j = i
      · subst e
        rw [e9] at hv
        by_cases a : N j
        · refine ⟨fun q => ?_, fun _ _ => a⟩
          rcases (hG.2.2.1 j a).2.2 with z | z
          · exact z
          · exact absurd (Inw_V18 h j hi18 z).1 q.2.2.1
        · rw [pif_f a] at hv
          by_cases b : J j
          · rw [pif_t b] at hv; cases hv
          · rw [pif_f b] at hv
            by_cases c : fl σ F j
            · rw [pif_t c] at hv; cases hv
            · rw [pif_f c] at hv
              exact ⟨fun q => absurd q c, fun _ q => q.elim (fun z => absurd z b) (fun z => by rw [hv] at z; cases z)⟩
      · exact hP j (by omega)
    · rw [if_neg (fun q => hv ((nI0 hle).mp q))]
      obtain ⟨J1, N1, g1, g2, g3, g4, g5, g6, g7⟩ := gv_inode (Fu := Fu) hF hn h h9 hi18 hG hv
      rw [bd_e g7]
      show ∃ J' N', _ ∧ _ ∧ s_V_giveBack_19 Fu (zz (σ 4)) (zz (σ 5)) (zz (σ 6)) k4 m x1 x2 (nI i + nI 1) (zz (app σ J1 F N1 0)) (zz (app σ J1 F N1 1)) (zz (app σ J1 F N1 8)) (zz (app σ J1 F N1 9)) = _
      rw [nI_add]
      refine ih (i + 1) m J1 N1 (by omega) (by omega) g1 (fun j hj => ?_)
      by_cases e : j = i
      · subst e; exact ⟨g4, g5⟩
      · have hp := hP j (by omega)
        exact ⟨fun q => g2 j (hp.1 q), fun q z => g3 j (hp.2 q (z.imp_left (fun y => (g6 j y).resolve_right e)))⟩
end GV
