-- giving back, the class: the loop over the blocks, the rounds
section GV
variable {n Fu : Nat} {σ : St} {J F N : Nat → Prop}
theorem namer_dn {T : Nat → Nat} {b : Nat} : ans (sr (fun i => ∃ k', k' < 3 ∧ pt T i k' = b) 18) 18 = -1 ↔ ¬ ∃ i k, i < 18 ∧ k < 3 ∧ pt T i k = b := by
  rw [ans_m1 (by decide)]
  exact ⟨fun q z => q (sr_lt.mpr (by obtain ⟨i, k, a, b, c⟩ := z; exact ⟨i, a, k, b, c⟩)), fun q z => q (by obtain ⟨i, a, k, b, c⟩ := sr_lt.mp z; exact ⟨i, k, a, b, c⟩)⟩
-- what is dropped
theorem ap8_le (h : Inw n σ) {b : Nat} (hb : b < 36) : app σ J F N 8 b ≤ 2 := by
  show pif (F b) 0 (pif _ 2 (pif _ 1 (σ 8 b))) ≤ 2
  by_cases a : F b
  · rw [pif_t a]; omega
  · rw [pif_f a]
    by_cases c : b ≠ 0 ∧ ∃ i k, i < 18 ∧ k < 3 ∧ J i ∧ kd (σ 1) i = 2 ∧ pt (σ 1) i k = b
    · rw [pif_t c]; omega
    · rw [pif_f c]
      by_cases d : b ≠ 0 ∧ ∃ i k, i < 18 ∧ k < 3 ∧ J i ∧ pt (σ 1) i k = b
      · rw [pif_t d]; omega
      · rw [pif_f d]; exact ((Inw_V5 h).2.1 b hb).2.2
theorem ap8_own (h : Inw n σ) {b : Nat} (hb : b < 36) (hv : app σ J F N 8 b ≠ 0) : ¬ F b ∧ isD b ∧ (σ 8 b ≠ 0 ∨ ∃ i k, i < 18 ∧ k < 3 ∧ J i ∧ pt (σ 1) i k = b) := by
  have hv' : pif (F b) 0 (pif (b ≠ 0 ∧ ∃ i k, i < 18 ∧ k < 3 ∧ J i ∧ kd (σ 1) i = 2 ∧ pt (σ 1) i k = b) 2 (pif (b ≠ 0 ∧ ∃ i k, i < 18 ∧ k < 3 ∧ J i ∧ pt (σ 1) i k = b) 1 (σ 8 b))) ≠ 0 := hv
  by_cases a : F b
  · rw [pif_t a] at hv'; exact absurd rfl hv'
  · refine ⟨a, ?_⟩
    rw [pif_f a] at hv'
    by_cases d : b ≠ 0 ∧ ∃ i k, i < 18 ∧ k < 3 ∧ J i ∧ pt (σ 1) i k = b
    · obtain ⟨d0, i, k, d1, d2, d3, d4⟩ := d
      refine ⟨?_, Or.inr ⟨i, k, d1, d2, d3, d4⟩⟩
      rcases (h.1.1 i d1).2.1 k d2 with z | z
      · rw [d4] at z; exact absurd z d0
      · rw [← d4]; exact z
    · have c : ¬ (b ≠ 0 ∧ ∃ i k, i < 18 ∧ k < 3 ∧ J i ∧ kd (σ 1) i = 2 ∧ pt (σ 1) i k = b) := fun ⟨c0, i, k, c1, c2, c3, _, c4⟩ => d ⟨c0, i, k, c1, c2, c3, c4⟩
      rw [pif_f c, pif_f d] at hv'
      exact ⟨(Inw_V7 h b hb hv').1, Or.inl hv'⟩
theorem ap8_DB (h : Inw n σ) {b : Nat} (hb : b < 36) (hF : ¬ F b) (hv : app σ J F N 8 b ≠ 0) : app σ J F N 8 b = 2 ↔ DB σ b := by
  have hown := ap8_own h hb hv
  have hb0 : b ≠ 0 := by have := hown.2.1.2; omega
  have e : app σ J F N 8 b = pif (F b) 0 (pif (b ≠ 0 ∧ ∃ i k, i < 18 ∧ k < 3 ∧ J i ∧ kd (σ 1) i = 2 ∧ pt (σ 1) i k = b) 2 (pif (b ≠ 0 ∧ ∃ i k, i < 18 ∧ k < 3 ∧ J i ∧ pt (σ 1) i k = b) 1 (σ 8 b))) := rfl
  rw [e, pif_f hF] at hv ⊢
  by_cases c : b ≠ 0 ∧ ∃ i k, i < 18 ∧ k < 3 ∧ J i ∧ kd (σ 1) i = 2 ∧ pt (σ 1) i k = b
  · rw [pif_t c]
    obtain ⟨_, i, k, c1, c2, c3, c4, c5⟩ := c
    refine ⟨fun _ => ⟨hb0, Or.inr ⟨i, c1, c4, ?_⟩⟩, fun _ => rfl⟩
    have hp := (h.1.1 i c1).2.2.2 c4
    rcases (show k = 0 ∨ k = 1 ∨ k = 2 by omega) with rfl | rfl | rfl
    · exact c5
    · rw [hp.1] at c5; exact absurd c5.symm hb0
    · rw [hp.2] at c5; exact absurd c5.symm hb0
  · rw [pif_f c] at hv ⊢
    by_cases d : b ≠ 0 ∧ ∃ i k, i < 18 ∧ k < 3 ∧ J i ∧ pt (σ 1) i k = b
    · rw [pif_t d]
      obtain ⟨_, i, k, d1, d2, d3, d4⟩ := d
      refine ⟨fun z => absurd z (by decide), fun z => ?_⟩
      have h80 : σ 8 b = 0 := by rw [← d4]; exact (Inw_V6 h i k d1 d2 (by rw [d4]; exact hb0)).2
      rcases z.2 with y | ⟨x, x1, x2, x3⟩
      · rw [h80] at y; cases y
      · have := (h.2.2.1.1 x i 0 k x1 d1 (by omega) d2 (by rw [x3]; exact hb0) (x3.trans d4.symm)).1
        subst this
        exact absurd ⟨hb0, x, k, x1, d2, d3, x2, d4⟩ c
    · rw [pif_f d] at hv ⊢
      refine ⟨fun z => ⟨hb0, Or.inl z⟩, fun z => ?_⟩
      rcases z.2 with y | ⟨x, x1, x2, x3⟩
      · exact y
      · have := (Inw_V6 h x 0 x1 (by omega) (by rw [x3]; exact hb0)).2
        rw [x3] at this; exact absurd this hv
theorem gv_47 {k4 : Int32 → Int32 → (Nat → Int32) → (Nat → Int32) → (Nat → Int32) → (Nat → Int32) → Option ((Nat → Int32) × (Nat → Int32) × (Nat → Int32) × (Nat → Int32))} {x2 : Int32} (hF : 18 < Fu) (hn : n ≤ 1000) (h : Inw n σ) : ∀ (r b m mv : Nat) (F : Nat → Prop), b + r = 36 → r < m → mv ≤ 1 → GI σ J F N →
    ∃ F' mv', mv' ≤ 1 ∧ mv ≤ mv' ∧ GI σ J F' N ∧ (∀ x, F x → F' x) ∧ (mv' = 0 → (∀ x, F' x → F x) ∧ ∀ y, b ≤ y → y < 36 → ¬ dn σ y → app σ J F N 8 y = 0) ∧ (mv' = 1 → mv = 0 → ∃ x, x < 36 ∧ F' x ∧ ¬ F x) ∧ s_V_giveBack_47 Fu (zz (σ 4)) (zz (σ 5)) (zz (σ 6)) k4 m (nI mv) x2 (nI b) (zz (app σ J F N 0)) (zz (app σ J F N 1)) (zz (app σ J F N 8)) (zz (app σ J F N 9)) = k4 (nI mv') (x2 + nI 1) (zz (app σ J F' N 0)) (zz (app σ J F' N 1)) (zz (app σ J F' N 8)) (zz (app σ J F' N 9)) := by
  have hT4 := Inw_VT4 h hn
  have hT1 := Inw_VT1 h hn
  intro r
  induction r with
  | zero =>
    intro b m mv F hb hm hmv hG
    obtain ⟨m, rfl⟩ : ∃ q, m = q + 1 := ⟨m - 1, by omega⟩
    refine ⟨F, mv, hmv, Nat.le_refl _, hG, fun _ q => q, fun _ => ⟨fun _ q => q, fun y h1 h2 => by omega⟩, fun q1 q2 => by omega, ?_⟩
    unfold s_V_giveBack_47
    rw [if_pos (nI_le (by omega) (by omega))]
  | succ r ih =>
    intro b m mv F hb hm hmv hG
    obtain ⟨m, rfl⟩ : ∃ q, m = q + 1 := ⟨m - 1, by omega⟩
    have hb36 : b < 36 := by omega
    have hle := ap8_le (J := J) (F := F) (N := N) h hb36
    unfold s_V_giveBack_47
    rw [if_neg (nI_ge (by omega) (by omega)), gr_e b rfl hb36 (by decide)]
    show ∃ F' mv', _ ∧ _ ∧ _ ∧ _ ∧ _ ∧ _ ∧ (if nI (app σ J F N 8 b) = 0 then _ else _) = _
    by_cases hv : app σ J F N 8 b = 0
    · rw [if_pos (by rw [hv]; rfl), nI_add]
      obtain ⟨F', mv', a1, a2, a3, a4, a5, a6, a7⟩ := ih (b + 1) m mv F (by omega) (by omega) hmv hG
      refine ⟨F', mv', a1, a2, a3, a4, fun q => ⟨(a5 q).1, fun y h1 h2 h3 => ?_⟩, a6, a7⟩
      by_cases e : y = b
      · subst e; exact hv
      · exact (a5 q).2 y (by omega) h2 h3
    · rw [if_neg (fun q => hv ((nI0 (by omega)).mp q)), bd_e (cf_namer (by omega) hT4 (by omega))]
      by_cases hd : dn σ b
      · rw [if_neg (fun q => namer_dn.mp q hd), nI_add]
        obtain ⟨F', mv', a1, a2, a3, a4, a5, a6, a7⟩ := ih (b + 1) m mv F (by omega) (by omega) hmv hG
        refine ⟨F', mv', a1, a2, a3, a4, fun q => ⟨(a5 q).1, fun y h1 h2 h3 => ?_⟩, a6, a7⟩
        by_cases e : y = b
        · subst e; exact absurd hd h3
        · exact (a5 q).2 y (by omega) h2 h3
      · rw [if_pos (namer_dn.mpr hd)]
        obtain ⟨o1, o2, o3⟩ := ap8_own h hb36 hv
        have hDB := ap8_DB (J := J) (N := N) h hb36 o1 hv
        have hb0 : 0 < b := by have := o2.2; omega
        have hG' := GI_F hG hb0 hb36 hd o3
        have hfree := cf_freeBlockV (F := Fu) (σ := σ) (T := app σ J F N 1) (L := app σ J F N 9) (M := app σ J F N 0) (D := app σ J F N 8) (by omega) o2 hle ((Inw_V5 h).2.1 b hb36).1
          (fun e c hc hs => (Inw_V12 h (8 * b + c) (by omega) (by rw [show (8 * b + c) / 8 = b by omega]; exact hDB.mp e) hs).1)
          (fun e i h0 h1 => ⟨by rw [ap_lk]; exact gb_lk h hb36 (hDB.mp e) o1 h0 h1, (ap_VT hT1 i h1).2.1⟩)
        have eM : up (app σ J F N 0) (b / 12 * 16 + 4 + b % 12) 0 = app σ J (fun x => F x ∨ x = b) N 0 := E7 o2
        have eT : (if app σ J F N 8 b = 2 then tl (app σ J F N 1) (fun i => gb σ b i 8) else app σ J F N 1) = app σ J (fun x => F x ∨ x = b) N 1 := by
          by_cases e : app σ J F N 8 b = 2
          · rw [if_pos e]; exact E8 hb36 (hDB.mp e) o1
          · rw [if_neg e]; exact (E8n (fun z => e (hDB.mpr z))).symm
        have eL : (if app σ J F N 8 b = 2 then ll (app σ J F N 1) (app σ J F N 9) (fun i => gb σ b i 8) else app σ J F N 9) = app σ J (fun x => F x ∨ x = b) N 9 := by
          by_cases e : app σ J F N 8 b = 2
          · rw [if_pos e]; exact E9 hb36 (hDB.mp e) o1 (fun i hg => gi_JN h hG hb36 (hDB.mp e) o1 hg)
          · rw [if_neg e]; exact (E9n (fun z => e (hDB.mpr z))).symm
        rw [eM, eT, eL, E6] at hfree
        rw [bd_e hfree]
        show ∃ F' mv', _ ∧ _ ∧ _ ∧ _ ∧ _ ∧ _ ∧ s_V_giveBack_47 Fu (zz (σ 4)) (zz (σ 5)) (zz (σ 6)) k4 m (nI 1) x2 (nI b + nI 1) (zz (app σ J (fun x => F x ∨ x = b) N 0)) (zz (app σ J (fun x => F x ∨ x = b) N 1)) (zz (app σ J (fun x => F x ∨ x = b) N 8)) (zz (app σ J (fun x => F x ∨ x = b) N 9)) = _
        rw [nI_add]
        obtain ⟨F', mv', a1, a2, a3, a4, a5, a6, a7⟩ := ih (b + 1) m 1 (fun x => F x ∨ x = b) (by omega) (by omega) (by omega) hG'
        exact ⟨F', mv', a1, by omega, a3, fun x q => a4 x (Or.inl q), fun q => by omega, fun _ _ => ⟨b, hb36, a4 b (Or.inr rfl), o1⟩, a7⟩
theorem app_congr {J' F' N' : Nat → Prop} (h1 : ∀ i, J i ↔ J' i) (h2 : ∀ i, F i ↔ F' i) (h3 : ∀ i, N i ↔ N' i) : app σ J F N = app σ J' F' N' := by
  have e1 : J = J' := funext fun i => propext (h1 i)
  have e2 : F = F' := funext fun i => propext (h2 i)
  have e3 : N = N' := funext fun i => propext (h3 i)
  rw [e1, e2, e3]
theorem GI_end (hG : GI σ J F N) (hJ : ∀ j, j < 18 → (fl σ F j → J j) ∧ (kd (σ 4) j = 0 → J j ∨ σ 9 j = 2 → N j)) (h8 : ∀ y, y < 36 → ¬ dn σ y → app σ J F N 8 y = 0) (h : Inw n σ) : app σ J F N = GB σ := by
  have hC : Cl σ J F := by
    refine ⟨fun i h0 h1 hk hl => (hJ i h1).1 ⟨h0, h1, hk, hl⟩, fun b h0 hb hd ho => ?_⟩
    refine Classical.byContradiction fun hF => ?_
    have e : pif (F b) 0 (pif (b ≠ 0 ∧ ∃ i k, i < 18 ∧ k < 3 ∧ J i ∧ kd (σ 1) i = 2 ∧ pt (σ 1) i k = b) 2 (pif (b ≠ 0 ∧ ∃ i k, i < 18 ∧ k < 3 ∧ J i ∧ pt (σ 1) i k = b) 1 (σ 8 b))) = 0 := h8 b hb hd
    rw [pif_f hF] at e
    by_cases c : b ≠ 0 ∧ ∃ i k, i < 18 ∧ k < 3 ∧ J i ∧ kd (σ 1) i = 2 ∧ pt (σ 1) i k = b
    · rw [pif_t c] at e; cases e
    · rw [pif_f c] at e
      by_cases d : b ≠ 0 ∧ ∃ i k, i < 18 ∧ k < 3 ∧ J i ∧ pt (σ 1) i k = b
      · rw [pif_t d] at e; cases e
      · rw [pif_f d] at e
        rcases ho with z | z
        · exact z e
        · exact d ⟨by omega, z⟩
  have eJ : ∀ i, J i ↔ Js σ i := fun i => ⟨hG.2.2.2.1 i, fun q => q J F hC⟩
  have eF : ∀ b, F b ↔ Fs σ b := fun b => ⟨hG.2.2.2.2 b, fun q => q J F hC⟩
  exact app_congr eJ eF (fun i => ⟨fun q => ⟨(hG.2.2.1 i q).1, (hG.2.2.1 i q).2.1, (hG.2.2.1 i q).2.2.imp_left (eJ i).mp⟩, fun ⟨a, b, c⟩ => (hJ i a).2 b (c.imp_left (eJ i).mpr)⟩)
theorem gv_4 (hF : 40 < Fu) (hn : n ≤ 1000) (h : Inw n σ) (h9 : V9 σ) : ∀ (d m rnd : Nat) (J F N : Nat → Prop), 36 ≤ cn F 36 + d → d + 1 < m → rnd + d < 1000 → GI σ J F N → s_V_giveBack_4 Fu (zz (σ 4)) (zz (σ 5)) (zz (σ 6)) m (nI 1) (nI rnd) (zz (app σ J F N 0)) (zz (app σ J F N 1)) (zz (app σ J F N 8)) (zz (app σ J F N 9)) = some (zz (GB σ 0), zz (GB σ 1), zz (GB σ 8), zz (GB σ 9)) := by
  intro d
  induction d with
  | zero =>
    intro m rnd J F N hd hm hr hG
    exfalso
    have := cn_full (P := F) (n := 36) (by have := cn_le (P := F) (n := 36); omega) 0 (by omega)
    have := (hG.2.1 0 this).1
    omega
  | succ d ih =>
    intro m rnd J F N hd hm hr hG
    obtain ⟨m, rfl⟩ : ∃ q, m = q + 1 := ⟨m - 1, by omega⟩
    unfold s_V_giveBack_4
    rw [if_neg (show ¬ nI 1 = 0 by decide), if_neg (nI_ge (by omega) (by omega))]
    obtain ⟨J', N', g1, g2, g3⟩ := gv_19 (Fu := Fu) (k4 := s_V_giveBack_4 Fu (zz (σ 4)) (zz (σ 5)) (zz (σ 6)) m) (x1 := nI 0) (x2 := nI rnd) (by omega) hn h h9 18 0 Fu J N rfl (by omega) hG (fun j hj => absurd hj (Nat.not_lt_zero _))
    rw [g3]
    obtain ⟨F', mv', a1, a2, a3, a4, a5, a6, a7⟩ := gv_47 (Fu := Fu) (k4 := s_V_giveBack_4 Fu (zz (σ 4)) (zz (σ 5)) (zz (σ 6)) m) (x2 := nI rnd) (by omega) hn h 36 0 Fu 0 F rfl (by omega) (by omega) g1
    rw [a7, nI_add]
    rcases (show mv' = 0 ∨ mv' = 1 by omega) with rfl | rfl
    · obtain ⟨b1, b2⟩ := a5 rfl
      have eF : ∀ x, F' x ↔ F x := fun x => ⟨b1 x, a4 x⟩
      obtain ⟨m, rfl⟩ : ∃ q, m = q + 1 := ⟨m - 1, by omega⟩
      unfold s_V_giveBack_4
      rw [if_pos (show nI 0 = 0 from rfl), app_congr (J := J') (J' := J') (N := N') (N' := N') (fun _ => Iff.rfl) eF (fun _ => Iff.rfl), GI_end g1 g2 (fun y hy hd => b2 y (Nat.zero_le _) hy hd) h]
    · have hlt := cn_lt (P := F) (Q := F') (n := 36) (fun x _ q => a4 x q) (by obtain ⟨x, x1, x2, x3⟩ := a6 rfl rfl; exact ⟨x, x1, x2, x3⟩)
      exact ih m (rnd + 1) J' F' N' (by omega) (by omega) (by omega) a3
-- the class gives back
theorem GI_0 : GI σ (fun _ => False) (fun _ => False) (fun _ => False) := ⟨fun _ q => q.elim, fun _ q => q.elim, fun _ q => q.elim, fun _ q => q.elim, fun _ q => q.elim⟩
theorem cf_giveBack (hF : 100 < Fu) (hn : n ≤ 1000) (h : Inw n σ) (h9 : V9 σ) : s_V_giveBack Fu (zz (σ 4)) (zz (σ 5)) (zz (σ 6)) (zz (σ 0)) (zz (σ 1)) (zz (σ 8)) (zz (fun i => pif (0 < i ∧ i < 18 ∧ kd (σ 1) i ≠ 0 ∧ lk (σ 1) i = 0) 1 (σ 9 i))) = some (zz (GB σ 0), zz (GB σ 1), zz (GB σ 8), zz (GB σ 9)) := by
  have h0 : ∀ i, UF σ (fun _ => False) i = 0 := fun i => cn_zero.mpr (fun q _ z => z.1)
  have e0 : app σ (fun _ => False) (fun _ => False) (fun _ => False) 0 = σ 0 := by
    funext m; show pif _ 0 (σ 0 m) = _; rw [pif_f (fun q => q.elim (fun z => z.2) (fun z => z.2))]
  have e1 : app σ (fun _ => False) (fun _ => False) (fun _ => False) 1 = σ 1 := by
    funext m; show (if m % 5 = 1 then σ 1 m - UF σ (fun _ => False) (m / 5) else pif False 0 (σ 1 m)) = _
    rw [h0, pif_f (fun q => q)]; split <;> rfl
  have e8 : app σ (fun _ => False) (fun _ => False) (fun _ => False) 8 = σ 8 := by
    funext m; show pif False 0 (pif _ 2 (pif _ 1 (σ 8 m))) = _
    rw [pif_f (fun q => q), pif_f (fun ⟨_, _, _, _, _, q, _⟩ => q), pif_f (fun ⟨_, _, _, _, _, q, _⟩ => q)]
  have e9 : app σ (fun _ => False) (fun _ => False) (fun _ => False) 9 = fun i => pif (0 < i ∧ i < 18 ∧ kd (σ 1) i ≠ 0 ∧ lk (σ 1) i = 0) 1 (σ 9 i) := by
    funext m; show pif False 0 (pif False 2 (pif (0 < m ∧ m < 18 ∧ kd (σ 1) m ≠ 0 ∧ lk (σ 1) m ≤ UF σ (fun _ => False) m) 1 (σ 9 m))) = _
    rw [pif_f (fun q => q), pif_f (fun q => q), h0]
    exact pif_congr (and_congr_right' (and_congr_right' (and_congr_right' Nat.le_zero)))
  have := gv_4 (Fu := Fu) (by omega) hn h h9 36 Fu 0 (fun _ => False) (fun _ => False) (fun _ => False) (by omega) (by omega) (by omega) GI_0
  rw [e0, e1, e8, e9] at this
  exact this
end GV
