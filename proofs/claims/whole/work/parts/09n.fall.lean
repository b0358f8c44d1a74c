-- the reference's fall
theorem cf_fall_30 {F : Nat} {A T W D : Nat → Nat} {S : Nat → Prop} {i : Nat} (hT : VT T) (hi : i < 18) (hk : kd T i = 1 ∨ kd T i = 2) : ∀ (r k n : Nat), k + r = 3 → r < n → s_R_fall_30 F n (nI i) (nI k) (zz (dD T D i 0 k)) (zz (rM A (dT T i 0 k) W)) (bz S) = some (zz (dD T D i 0 3), zz (rM A (up (dT T i 0 3) (5 * i) 0) W), bz (fun j => S j ∨ j = i)) := by
  intro r
  induction r with
  | zero =>
    intro k n hk3 hn
    obtain ⟨n, rfl⟩ : ∃ q, n = q + 1 := ⟨n - 1, by omega⟩
    unfold s_R_fall_30
    have e3 : k = 3 := by omega
    subst e3
    rw [if_pos (nI_le (by omega) (by omega)), bd_e (cf_at hi (by omega)), ga_e _ rfl (by omega) (by decide), ga_e i rfl hi (by decide), nI_clamp (by omega), nI_clamp (by omega), nar1, bz_1, zz_up, up_t hi (by omega), Nat.add_zero]
  | succ r ih =>
    intro k n hk3 hn
    obtain ⟨n, rfl⟩ : ∃ q, n = q + 1 := ⟨n - 1, by omega⟩
    have this := ih (k + 1) n (by omega) (by omega)
    have hTk : VT (dT T i 0 k) := by
      intro j hj
      obtain ⟨a, b, c⟩ := hT j hj
      refine ⟨by rw [dT_kd]; exact a, ?_, fun m hm => ?_⟩
      · show dT T i 0 k (5 * j + 1) < _
        unfold dT; rw [if_neg (by omega)]; exact b
      · show dT T i 0 k (5 * j + 2 + m) = 0 ∨ isD (dT T i 0 k (5 * j + 2 + m))
        unfold dT
        split
        · exact Or.inl rfl
        · exact c m hm
    unfold s_R_fall_30
    rw [if_neg (nI_ge (by omega) (by omega)), bd_e (cf_drop hTk hi (by omega) (fun _ => by rw [dT_kd]; exact hk)), dT_at (Nat.le_refl _) (by omega), dT_kd]
    by_cases h0 : pt T i k = 0
    · rw [if_pos h0]
      show s_R_fall_30 F n (nI i) (nI k + nI 1) _ _ _ = _
      rw [nI_add]
      rw [dT_z h0, dD_z h0] at this; exact this
    · rw [if_neg h0]
      show s_R_fall_30 F n (nI i) (nI k + nI 1) _ _ _ = _
      rw [nI_add, dT_s (Nat.zero_le _) (by omega), dD_s (Nat.zero_le _) h0]
      exact this
theorem VT_up1 {T : Nat → Nat} {i l : Nat} (hT : VT T) (hl : l < 2 ^ 30) : VT (up T (5 * i + 1) l) := by
  intro j hj
  obtain ⟨a, b, c⟩ := hT j hj
  refine ⟨?_, ?_, fun m hm => ?_⟩
  · show up T (5 * i + 1) l (5 * j) ≤ 2
    rw [up_n (by omega)]; exact a
  · show up T (5 * i + 1) l (5 * j + 1) < _
    by_cases e : j = i
    · subst e; rw [up_s]; exact hl
    · rw [up_n (by omega)]; exact b
  · show up T (5 * i + 1) l (5 * j + 2 + m) = 0 ∨ isD (up T (5 * i + 1) l (5 * j + 2 + m))
    rw [up_n (by omega)]; exact c m hm
theorem cf_fall {F : Nat} {A T W D : Nat → Nat} {S : Nat → Prop} {i : Nat} (hF : 3 < F) (hT : VT T) (hi : i < 18) (hk : kd T i = 1 ∨ kd T i = 2) (hl : 0 < lk T i) : s_R_fall F (nI i) (zz D) (zz (rM A T W)) (bz S) = some (if lk T i = 1 then (zz (dD T D i 0 3), zz (rM A (up (dT (up T (5 * i + 1) 0) i 0 3) (5 * i) 0) W), bz (fun j => S j ∨ j = i)) else (zz D, zz (rM A (up T (5 * i + 1) (lk T i - 1)) W), bz S)) := by
  have hb := (hT i hi).2.1
  have e1 : T (5 * i + 1) = lk T i := rfl
  unfold s_R_fall
  rw [bd_e (cf_at hi (by omega)), rd_t hi (by omega), e1, ga_e _ rfl (by omega) (by decide), bd_e (cf_at hi (by omega)), nI_clamp (by omega), pk_sub (by omega), zz_up, up_t hi (by omega), rd_t hi (by omega), up_s]
  by_cases h : lk T i = 1
  · rw [if_pos (by rw [h]; rfl), if_pos h, h]
    have hT1 : VT (up T (5 * i + 1) 0) := VT_up1 hT (by omega)
    have hkd : kd (up T (5 * i + 1) 0) i = kd T i := by show up T _ _ (5 * i) = _; rw [up_n (by omega)]
    have := cf_fall_30 (F := F) (A := A) (W := W) (D := D) (S := S) hT1 hi (by rw [hkd]; exact hk) 3 0 F rfl hF
    rw [dT_0, dD_0] at this
    refine this.trans ?_
    have eD : dD (up T (5 * i + 1) 0) D i 0 3 = dD T D i 0 3 := by
      funext b
      unfold dD
      rw [hkd]
      refine pif_congr (and_congr_right' ⟨fun ⟨k, a, b, c⟩ => ⟨k, a, b, ?_⟩, fun ⟨k, a, b, c⟩ => ⟨k, a, b, ?_⟩⟩)
      · rw [← c]; show _ = up T _ _ (5 * i + 2 + k); rw [up_n (by omega)]
      · rw [← c]; show up T _ _ (5 * i + 2 + k) = _; rw [up_n (by omega)]
    rw [eD]
  · rw [if_neg (fun q => h (by have := (nI0 (by omega)).mp q; omega)), if_neg h]
-- freed blocks of directories are empty in memory
theorem cn_eq {P Q : Nat → Prop} {m : Nat} (h : ∀ k, k < m → P k → Q k) (hc : cn Q m ≤ cn P m) : ∀ k, k < m → Q k → P k := by
  intro k hk hq
  refine Classical.byContradiction fun hp => ?_
  have := cn_lt h ⟨k, hk, hq, hp⟩
  omega
theorem JF_zero {n : Nat} {σ : St} (h : Inw n σ) : (∀ i, Js σ i → kd (σ 1) i = 2 → ∀ c, c < 8 → pt (σ 1) i 0 ≠ 0 → σ 2 (8 * pt (σ 1) i 0 + c) = 0) ∧ (∀ b, Fs σ b → DB σ b → ∀ c, c < 8 → σ 2 (8 * b + c) = 0) := by
  have hC : Cl σ (fun i => kd (σ 1) i = 2 → ∀ c, c < 8 → pt (σ 1) i 0 ≠ 0 → σ 2 (8 * pt (σ 1) i 0 + c) = 0) (fun b => DB σ b → ∀ c, c < 8 → σ 2 (8 * b + c) = 0) := by
    refine ⟨fun i h0 h1 hk hl h2 c hc hp => ?_, fun b h0 hb hd ho hD c hc => ?_⟩
    · refine Classical.byContradiction fun hz => ?_
      have hV15 := Inw_V15 h i h0 h1 hk
      have hle : Un σ i ≤ UF σ (fun b => DB σ b → ∀ c, c < 8 → σ 2 (8 * b + c) = 0) i := Nat.le_trans hV15 hl
      have hin := cn_eq (P := fun q => (DB σ (q / 8) → ∀ c, c < 8 → σ 2 (8 * (q / 8) + c) = 0) ∧ DB σ (q / 8) ∧ nmD σ i q) (Q := fun q => DB σ (q / 8) ∧ (nmM σ i q ∨ nmD σ i q)) (m := 288) (fun q _ z => ⟨z.2.1, Or.inr z.2.2⟩) hle
      have hno : ∀ q, q < 288 → DB σ (q / 8) → ¬ nmM σ i q := by
        intro q hq hD hm
        have := (hin q hq ⟨hD, Or.inl hm⟩).1 hD (q % 8) (by omega)
        rw [show 8 * (q / 8) + q % 8 = q by omega] at this
        exact hm.1 this
      have := Inw_V20 h i h0 h1 h2 hp hno ⟨c, hc, hz⟩
      have := UF_le (σ := σ) (F := fun b => DB σ b → ∀ c, c < 8 → σ 2 (8 * b + c) = 0) (i := i)
      omega
    · have v14 : σ 8 b = 2 → σ 2 (8 * b + c) = 0 := fun e => Inw_V14 h (8 * b + c) (by omega) (by rw [show (8 * b + c) / 8 = b by omega]; exact e)
      rcases hD.2 with e | ⟨x, x1, x2, x3⟩
      · exact v14 e
      · rcases ho with z | ⟨i, k, i1, i2, i3, i4⟩
        · have := (Inw_V6 h x 0 x1 (by omega) (by rw [x3]; exact hD.1)).2
          rw [x3] at this; exact absurd this z
        · have := (h.2.2.1.1 x i 0 k x1 i1 (by omega) i2 (by rw [x3]; exact hD.1) (x3.trans i4.symm)).1
          subst this
          rw [← x3]
          exact i3 x2 c hc (by rw [x3]; exact hD.1)
  exact ⟨fun i q => q _ _ hC, fun b q => q _ _ hC⟩
-- falls that are still owed when the blocks G are freed
noncomputable def cw (σ : St) (G : Nat → Prop) (i : Nat) : Nat := cn (fun q => ¬ G (q / 8) ∧ DB σ (q / 8) ∧ σ 2 q = 0 ∧ nmD σ i q) 288
theorem cw_UF {n : Nat} {σ : St} {G : Nat → Prop} {i : Nat} (h : Inw n σ) (hG : ∀ b, G b → Fs σ b) : cw σ G i + UF σ G i = cw σ (fun _ => False) i := by
  have e := cn_split (P := fun q => ¬ False ∧ DB σ (q / 8) ∧ σ 2 q = 0 ∧ nmD σ i q) (R := fun q => G (q / 8)) (n := 288)
  have e1 : cn (fun q => (¬ False ∧ DB σ (q / 8) ∧ σ 2 q = 0 ∧ nmD σ i q) ∧ G (q / 8)) 288 = UF σ G i :=
    cn_congr (fun q hq => ⟨fun ⟨⟨_, a, _, b⟩, c⟩ => ⟨c, a, b⟩, fun ⟨a, b, c⟩ => ⟨⟨fun z => z, b, by have := (JF_zero h).2 (q / 8) (hG _ a) b (q % 8) (by omega); rw [show 8 * (q / 8) + q % 8 = q by omega] at this; exact this, c⟩, a⟩⟩)
  have e2 : cn (fun q => (¬ False ∧ DB σ (q / 8) ∧ σ 2 q = 0 ∧ nmD σ i q) ∧ ¬ G (q / 8)) 288 = cw σ G i :=
    cn_congr (fun q hq => ⟨fun ⟨⟨_, a⟩, b⟩ => ⟨b, a⟩, fun ⟨a, b⟩ => ⟨⟨fun z => z, b⟩, a⟩⟩)
  rw [e1, e2] at e
  have e3 : cw σ (fun _ => False) i = cn (fun q => ¬ False ∧ DB σ (q / 8) ∧ σ 2 q = 0 ∧ nmD σ i q) 288 := rfl
  omega
