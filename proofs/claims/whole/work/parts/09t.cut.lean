-- giving back where nothing has fallen
theorem owd_cw {σ : St} {j : Nat} (hj : j < 18) : owd σ j = cw σ (fun _ => False) j := by
  unfold owd
  rw [if_pos hj]
  exact cn_congr (fun q _ => ⟨fun ⟨a, b⟩ => ⟨fun z => z, a, b⟩, fun ⟨_, a, b⟩ => ⟨a, b⟩⟩)
theorem UF_F {σ : St} {i : Nat} : UF σ (fun _ => False) i = 0 := cn_zero.mpr (fun _ _ z => z.1)
theorem app_0 {σ : St} : app σ (fun _ => False) (fun _ => False) (fun _ => False) 0 = σ 0 := by
  funext m; show pif _ 0 (σ 0 m) = _; rw [pif_f (fun q => q.elim (fun z => z.2) (fun z => z.2))]
theorem app_8 {σ : St} : app σ (fun _ => False) (fun _ => False) (fun _ => False) 8 = σ 8 := by
  funext m; show pif False 0 (pif _ 2 (pif _ 1 (σ 8 m))) = _
  rw [pif_f (fun q => q), pif_f (fun ⟨_, _, _, _, _, q, _⟩ => q), pif_f (fun ⟨_, _, _, _, _, q, _⟩ => q)]
theorem cf_giveBack0 {n Fu : Nat} {σ : St} (hF : 100 < Fu) (hn : n ≤ 1000) (h : Inw n σ) (h9 : V9 σ) (hL : VL (σ 1)) : s_V_giveBack Fu (zz (σ 4)) (zz (σ 5)) (zz (σ 6)) (zz (σ 0)) (zz (σ 1)) (zz (σ 8)) (zz (σ 9)) = some (zz (GB σ 0), zz (GB σ 1), zz (GB σ 8), zz (GB σ 9)) := by
  have := cf_giveBack hF hn h h9
  have e : (fun i => pif (0 < i ∧ i < 18 ∧ kd (σ 1) i ≠ 0 ∧ lk (σ 1) i = 0) 1 (σ 9 i)) = σ 9 := by
    funext i; rw [pif_f]; rintro ⟨a, b, c, d⟩; have := hL i a b c; omega
  rw [e] at this; exact this
theorem cf_settle0 {n Fu : Nat} {σ : St} {C : Nat → Nat} (hFu : 300 < Fu) (hn : n ≤ 600) (h : Inw n σ) (h9 : V9 σ) (hL : VL (σ 1)) : ∃ C', s_R_settle Fu (zz (rM (σ 3) (σ 4) (σ 5))) (zz (σ 6)) (zz (σ 8)) (zz (rM (σ 0) (σ 1) (σ 2))) (bz (fun i => σ 9 i = 2)) (zz (owd σ)) (zz C) = some (zz (GB σ 8), zz (rM (GB σ 0) (GB σ 1) (σ 2)), bz (fun i => GB σ 9 i = 2), zz (owd (GB σ)), zz C') := by
  have hS : SS σ (fun _ => False) (fun _ => False) (fun _ => False) (fun _ => 0) (fun j => σ 1 (5 * j + 1)) (owd σ) := by
    refine ⟨GI_0, fun j hj => ?_, fun j hj => ?_, fun j _ => by show (0 : Nat) < 300; omega, fun j _ q => absurd q (Nat.lt_irrefl _), fun j q => ?_, fun j hj => ⟨rfl, ?_⟩⟩
    · rw [UF_F]; rfl
    · left
      show owd σ j = cw σ (fun _ => False) j + 0
      rw [owd_cw hj, Nat.add_zero]
    · have := q.2.2.2
      rw [UF_F] at this
      have := hL j q.1 q.2.1 q.2.2.1
      omega
    · unfold owd; rw [if_neg (by omega)]
  obtain ⟨C', e⟩ := cf_settle (C := C) hFu hn h h9 hS
  refine ⟨C', ?_⟩
  have eT : rT σ (fun _ => False) (fun j => σ 1 (5 * j + 1)) = σ 1 := by
    funext q
    unfold rT
    by_cases hq : q % 5 = 1
    · rw [if_pos hq]
      show σ 1 (5 * (q / 5) + 1) = σ 1 q
      rw [show 5 * (q / 5) + 1 = q by omega]
    · rw [if_neg hq, pif_f (fun z => z)]
  have eS : bz (rs σ (fun _ => False) (fun _ => False)) = bz (fun i => σ 9 i = 2) := bz_congr (fun i => ⟨fun q => q.2.resolve_left (fun z => z), fun q => ⟨fun z => z, Or.inr q⟩⟩)
  rw [eT, eS, app_0, app_8] at e
  exact e
-- cut
noncomputable def cutS (σ : St) (i m : Nat) : St := fun c => if c = 1 then dT (σ 1) i m 3 else if c = 8 then dD (σ 1) (σ 8) i m 3 else σ c
section CU
variable {n : Nat} {σ : St} {i m : Nat}
theorem cu_kd {j : Nat} : kd (cutS σ i m 1) j = kd (σ 1) j := dT_kd
theorem cu_lk {j : Nat} : lk (cutS σ i m 1) j = lk (σ 1) j := by
  show dT (σ 1) i m 3 (5 * j + 1) = _
  unfold dT; rw [if_neg (by omega)]
theorem cu_pt {j k : Nat} (hk : k < 3) : pt (cutS σ i m 1) j k = if j = i ∧ m ≤ k then 0 else pt (σ 1) j k := by
  show dT (σ 1) i m 3 (5 * j + 2 + k) = _
  unfold dT
  by_cases h : j = i ∧ m ≤ k
  · rw [if_pos h, if_pos (by omega)]
  · rw [if_neg h, if_neg (by omega)]
def cuo (σ : St) (i m b : Nat) : Prop := b ≠ 0 ∧ ∃ k', m ≤ k' ∧ k' < 3 ∧ pt (σ 1) i k' = b
theorem cu_8 {b : Nat} : cutS σ i m 8 b = pif (cuo σ i m b) (kd (σ 1) i) (σ 8 b) := rfl
theorem cut_Inw (h : Inw n σ) (hL : VL (σ 1)) (hi : i < 18) (h1 : kd (σ 1) i = 1) : Inw n (cutS σ i m) ∧ VL (cutS σ i m 1) ∧ (∀ b, b < 36 → (DB (cutS σ i m) b ↔ DB σ b)) := by
  obtain ⟨⟨hX1, hX4⟩, hL4, ⟨hJ1, hJ4⟩, ⟨hR1, hR4⟩, ⟨hn1, hn4⟩, h5, h6, h7, h8, h10, h11, h12, h13, h14, h15, h16, h17, h18, h19, h20⟩ := id h
  have own : ∀ b, cuo σ i m b → isD b ∧ bm (σ 0) b = 1 ∧ σ 8 b = 0 ∧ cutS σ i m 8 b = 1 := by
    rintro b ⟨b0, k, k1, k2, k3⟩
    have hp : pt (σ 1) i k ≠ 0 := by rw [k3]; exact b0
    have hD := ((hX1 i hi).2.1 k k2).resolve_left hp
    have := h6 i k hi k2 hp
    rw [k3] at hD this
    exact ⟨hD, this.1, this.2, by rw [cu_8, pif_t ⟨b0, k, k1, k2, k3⟩, h1]⟩
  have no8 : ∀ b, ¬ cuo σ i m b → cutS σ i m 8 b = σ 8 b := fun b q => by rw [cu_8, pif_f q]
  have e82 : ∀ b, cutS σ i m 8 b = 2 ↔ σ 8 b = 2 := by
    intro b
    by_cases q : cuo σ i m b
    · obtain ⟨_, _, a, c⟩ := own b q
      rw [a, c]; exact ⟨fun z => absurd z (by decide), fun z => absurd z (by decide)⟩
    · rw [no8 b q]
  have ptd : ∀ j, kd (σ 1) j = 2 → pt (cutS σ i m 1) j 0 = pt (σ 1) j 0 := fun j hj => by
    rw [cu_pt (by omega), if_neg]; rintro ⟨e, _⟩; subst e; omega
  have eDB : ∀ b, DB (cutS σ i m) b ↔ DB σ b := by
    intro b
    refine and_congr_right' (or_congr (e82 b) ⟨fun ⟨j, a, c, d⟩ => ?_, fun ⟨j, a, c, d⟩ => ?_⟩)
    · rw [cu_kd] at c; rw [ptd j c] at d; exact ⟨j, a, c, d⟩
    · exact ⟨j, a, by rw [cu_kd]; exact c, by rw [ptd j c]; exact d⟩
  have eUn : ∀ j, Un (cutS σ i m) j = Un σ j := fun j => cn_congr (fun q _ => and_congr_left' (eDB _))
  have eUd : ∀ j, Ud (cutS σ i m) j = Ud σ j := fun j => cn_congr (fun q _ => and_congr_left' (eDB _))
  refine ⟨⟨⟨?_, hX4⟩, hL4, ⟨?_, hJ4⟩, ⟨?_, hR4⟩, ⟨?_, hn4⟩, ?_, ?_, ?_, ?_, ?_, ?_, ?_, ?_, ?_, ?_, ?_, ?_, ?_, ?_, ?_⟩, ?_, fun b _ => eDB b⟩
  · intro j hj
    obtain ⟨a, b, c, d⟩ := hX1 j hj
    refine ⟨by rw [cu_kd]; exact a, fun k hk => ?_, fun q => ?_, fun q => ?_⟩
    · rw [cu_pt hk]; split
      · exact Or.inl rfl
      · exact b k hk
    · rw [cu_kd] at q
      refine ⟨by rw [cu_lk]; exact (c q).1, fun k hk => ?_⟩
      rw [cu_pt hk]; split
      · rfl
      · exact (c q).2 k hk
    · rw [cu_kd] at q
      have nji : j ≠ i := fun e => by subst e; omega
      rw [cu_pt (by omega), cu_pt (by omega), if_neg (fun z => nji z.1), if_neg (fun z => nji z.1)]; exact d q
  · intro a b k l ha hb hk hl h0 he
    rw [cu_pt hk] at h0 he
    rw [cu_pt hl] at he
    by_cases c : a = i ∧ m ≤ k
    · rw [if_pos c] at h0; exact absurd rfl h0
    · rw [if_neg c] at h0 he
      by_cases d : b = i ∧ m ≤ l
      · rw [if_pos d] at he; exact absurd he h0
      · rw [if_neg d] at he; exact hJ1 a b k l ha hb hk hl h0 he
  · refine ⟨by rw [cu_kd]; exact hR1.1, by rw [ptd 0 hR1.1]; exact hR1.2⟩
  · intro j hj; rw [cu_lk]; exact hn1 j hj
  · refine ⟨h5.1, fun b hb => ⟨(h5.2.1 b hb).1, (h5.2.1 b hb).2.1, ?_⟩, h5.2.2⟩
    by_cases q : cuo σ i m b
    · rw [(own b q).2.2.2]; omega
    · rw [no8 b q]; exact (h5.2.1 b hb).2.2
  · intro j k hj hk h0
    rw [cu_pt hk] at h0 ⊢
    by_cases c : j = i ∧ m ≤ k
    · rw [if_pos c] at h0; exact absurd rfl h0
    · rw [if_neg c] at h0 ⊢
      refine ⟨(h6 j k hj hk h0).1, ?_⟩
      rw [no8]
      · exact (h6 j k hj hk h0).2
      · rintro ⟨_, l, l1, l2, l3⟩
        have := hJ1 i j l k hi hj l2 hk (by rw [l3]; exact h0) l3
        exact c ⟨this.1.symm, by omega⟩
  · intro b hb hv
    by_cases q : cuo σ i m b
    · exact ⟨(own b q).1, (own b q).2.1⟩
    · rw [no8 b q] at hv; exact h7 b hb hv
  · intro j k hj hk h0
    obtain ⟨a, b, c, d⟩ := h8 j k hj hk h0
    have h0' : pt (σ 4) j k ≠ 0 := h0
    have hk4 : kd (σ 4) j ≠ 0 := fun z => h0' (((hX4 j hj).2.2.1 z).2 k hk)
    refine ⟨a, b, c, ?_⟩
    show pt (cutS σ i m 1) j k = pt (σ 4) j k ∨ (cutS σ i m 8 (pt (σ 4) j k) = kd (σ 4) j ∧ (kd (σ 4) j = 2 → kd (cutS σ i m 1) j = 0))
    rw [cu_pt hk]
    rcases d with d | d
    · by_cases z : j = i ∧ m ≤ k
      · right
        obtain ⟨z1, z2⟩ := z
        subst z1
        refine ⟨by rw [(own _ ⟨h0', k, z2, hk, d⟩).2.2.2, h10 j hj hk4 (by omega), h1], fun z => ?_⟩
        rw [h10 j hj hk4 (by omega), h1] at z; cases z
      · left; rw [if_neg z]; exact d
    · right
      obtain ⟨d, d2⟩ := d
      refine ⟨?_, fun z => by rw [cu_kd]; exact d2 z⟩
      rw [no8]
      · exact d
      · intro q; rw [(own _ q).2.2.1] at d; exact hk4 d.symm
  · intro j hj a b
    rw [cu_kd] at b ⊢; exact h10 j hj a b
  · intro q hq hD h0
    obtain ⟨a, b, c, d, e⟩ := h11 q hq ((eDB _).mp hD) h0
    refine ⟨a, ?_, c, ?_, e⟩
    · show kd (cutS σ i m 1) (σ 2 q % 32) ≠ 0; rw [cu_kd]; exact b
    · show kd (cutS σ i m 1) (σ 2 q % 32) = 2 → pt (cutS σ i m 1) (σ 2 q % 32) 0 ≠ 0
      rw [cu_kd]; intro z; rw [ptd _ z]; exact d z
  · intro q hq hD h0
    obtain ⟨a, b, c⟩ := h12 q hq ((eDB _).mp hD) h0
    exact ⟨a, by show kd (cutS σ i m 1) (sn σ q % 32) ≠ 0; rw [cu_kd]; exact b, c⟩
  · intro q hq hD a b; exact h13 q hq ((eDB _).mp hD) a b
  · intro q hq e; exact h14 q hq ((e82 _).mp e)
  · intro j h0 hj hk; rw [cu_kd] at hk; rw [eUn, cu_lk]; exact h15 j h0 hj hk
  · intro j h0 hj hk; rw [eUd]; exact h16 j h0 hj hk
  · intro q hy
    obtain ⟨a, b, j, j1, j2, j3⟩ := h17 q hy
    exact ⟨a, b, j, j1, by rw [cu_kd]; exact j2, by rw [ptd j j2]; exact j3⟩
  · intro j hj e; rw [cu_kd]; exact h18 j hj e
  · intro j hj a b; rw [cu_kd] at a; exact h19 j hj a b
  · intro j h0 hj h2 hp hno hc
    rw [cu_kd] at h2
    rw [ptd j h2] at hp hc
    rw [eUn, cu_lk]
    exact h20 j h0 hj h2 hp (fun q hq hD hm => hno q hq ((eDB _).mpr hD) hm) hc
  · intro j h0 hj hk
    rw [cu_kd] at hk; rw [cu_lk]; exact hL j h0 hj hk
end CU
theorem cf_cut_25 {Fu : Nat} {A T W D : Nat → Nat} {dsk fresh rl od ct im' : Nat → Int32} {i m0 : Nat} (hT : VT T) (hi : i < 18) (hk : kd T i = 1) : ∀ (r k m : Nat), k + r = 3 → r < m → m0 ≤ k → s_R_cut_25 Fu dsk fresh m (nI i) (nI (cn (fun k' => m0 ≤ k' ∧ pt T i k' ≠ 0) k)) (nI k) (zz (dD T D i m0 k)) (zz (rM A (dT T i m0 k) W)) rl od ct im' = bd (s_R_settle Fu dsk fresh (zz (dD T D i m0 3)) (zz (rM A (dT T i m0 3) W)) rl od ct) (fun ⟨a, b, c, d, e⟩ => some (nI (cn (fun k' => m0 ≤ k' ∧ pt T i k' ≠ 0) 3), a, b, c, d, e, im')) := by
  intro r
  induction r with
  | zero =>
    intro k m hk3 hm hm0
    obtain ⟨m, rfl⟩ : ∃ q, m = q + 1 := ⟨m - 1, by omega⟩
    unfold s_R_cut_25
    rw [if_pos (nI_le (by omega) (by omega)), show k = 3 by omega]
  | succ r ih =>
    intro k m hk3 hm hm0
    obtain ⟨m, rfl⟩ : ∃ q, m = q + 1 := ⟨m - 1, by omega⟩
    have this := ih (k + 1) m (by omega) (by omega) (by omega)
    have hTk : VT (dT T i m0 k) := by
      intro j hj
      obtain ⟨a, b, c⟩ := hT j hj
      refine ⟨by rw [dT_kd]; exact a, ?_, fun l hl => ?_⟩
      · show dT T i m0 k (5 * j + 1) < _
        unfold dT; rw [if_neg (by omega)]; exact b
      · show dT T i m0 k (5 * j + 2 + l) = 0 ∨ isD (dT T i m0 k (5 * j + 2 + l))
        unfold dT
        split
        · exact Or.inl rfl
        · exact c l hl
    unfold s_R_cut_25
    rw [if_neg (nI_ge (by omega) (by omega)), bd_e (cf_drop hTk hi (by omega) (fun _ => by rw [dT_kd]; exact Or.inl hk)), dT_at (Nat.le_refl _) (by omega), dT_kd]
    by_cases h0 : pt T i k = 0
    · rw [if_pos h0]
      show s_R_cut_25 Fu dsk fresh m (nI i) (nI _ + nI 0) (nI k + nI 1) _ _ _ _ _ _ = _
      rw [nI_add, nI_add, Nat.add_zero]
      rw [cn_f (P := fun k' => m0 ≤ k' ∧ pt T i k' ≠ 0) (fun q => q.2 h0), dT_z h0, dD_z h0] at this; exact this
    · rw [if_neg h0]
      show s_R_cut_25 Fu dsk fresh m (nI i) (nI _ + nI 1) (nI k + nI 1) _ _ _ _ _ _ = _
      rw [nI_add, nI_add, dT_s hm0 (by omega), dD_s hm0 h0]
      rw [cn_t (P := fun k' => m0 ≤ k' ∧ pt T i k' ≠ 0) ⟨hm0, h0⟩] at this
      exact this
theorem st_cut (F : Nat) (hF : 300 < F) : St_cut F Rl0 := by
  intro n v0 v1 v2 v3 v4 v5 v6 v7 v8 v9 v10 v11 v12 v13 r0 r1 r2 r3 r4 r5 r6 r7 r8 r9 r10 r11 x1 x2 hn hR
  obtain ⟨σ, hI, h0, h1, h2, h3, h4, h5, h6, h7, h8, h9, h10, h11, h12, h13, h14, h15, h16, h17, h18, ⟨C, h19⟩, ⟨S1, h20⟩, hrest⟩ := hR
  subst h0 h1 h2 h3 h5 h6 h7 h9 h10 h12 h13 h14 h16 h17 h18 h19 h20
  have hT := Inv_VT1 hI
  have hE := VEm hI.2.1
  obtain ⟨q', eq⟩ := cf_isTree1 (F := F) v4 x1 (by omega) hT hE
  obtain ⟨S', eS⟩ := cf_holds (F := F) (A := σ 0) (dsk := zz (rM (σ 3) (σ 4) (σ 5))) (fresh := zz (σ 6)) (kk := 1) S1 x1 (by omega) hT hE (by omega)
  have hI' := Inv_s hI hn
  by_cases a : x2 < 0
  · refine ⟨-1, zz (σ 0), zz (σ 1), q', zz (σ 8), zz (σ 9), zz (σ 8), zz (rM (σ 0) (σ 1) (σ 2)), bz (fun i => σ 9 i = 2), zz (owd σ), zz C, bz S1, ?_, ?_, σ, hI', rfl, rfl, rfl, rfl, h4, rfl, rfl, rfl, h8, rfl, rfl, h11, rfl, rfl, rfl, h15, rfl, rfl, rfl, ⟨C, rfl⟩, ⟨S1, rfl⟩, hrest⟩
    · unfold s_V_cut
      rw [bd_e eq]
      show (if pif _ (nI 1) (nI 0) = 0 then _ else _) = _
      rw [if_pos a]; split <;> rfl
    · unfold s_R_cut; rw [if_pos a]
  · by_cases b : nI 3 < x2
    · have b' : ¬ x2 ≤ nI 3 := fun q => by
        have h1 := Int32.lt_iff_toInt_lt.mp b
        have h2 := Int32.le_iff_toInt_le.mp q
        omega
      refine ⟨-1, zz (σ 0), zz (σ 1), q', zz (σ 8), zz (σ 9), zz (σ 8), zz (rM (σ 0) (σ 1) (σ 2)), bz (fun i => σ 9 i = 2), zz (owd σ), zz C, bz S1, ?_, ?_, σ, hI', rfl, rfl, rfl, rfl, h4, rfl, rfl, rfl, h8, rfl, rfl, h11, rfl, rfl, rfl, h15, rfl, rfl, rfl, ⟨C, rfl⟩, ⟨S1, rfl⟩, hrest⟩
      · unfold s_V_cut
        rw [bd_e eq]
        show (if pif _ (nI 1) (nI 0) = 0 then _ else _) = _
        rw [if_neg a, if_neg b']; split <;> rfl
      · unfold s_R_cut; rw [if_neg a, if_pos b]
    · by_cases ht : isT (σ 1) (σ 2) 1 x1
      · obtain ⟨i, hi, rfl, t, hk⟩ := ht
        have ht : isT (σ 1) (σ 2) 1 (nI i) := ⟨i, hi, rfl, t, hk⟩
        obtain ⟨m0, hm0, rfl⟩ : ∃ m0, m0 ≤ 3 ∧ x2 = nI m0 := by
          rcases pk_ix x2 (n := 4) (by decide) with z | z | ⟨j, hj, e⟩
          · exact absurd z a
          · exfalso
            have h1 := Int32.le_iff_toInt_le.mp z
            rw [nI_toInt (by decide)] at h1
            exact b (Int32.lt_iff_toInt_lt.mpr (by rw [nI_toInt (by decide)]; omega))
          · exact ⟨j, by omega, e⟩
        obtain ⟨c1, c2, c3⟩ := cut_Inw (m := m0) hI.2.1 hI.2.2.1 hi hk
        have c9 : V9 (cutS σ i m0) := hI.2.2.2.2.2
        have cx : Vx (cutS σ i m0) := fun j a b c d => by have := c2 j a b c; omega
        have hn5 : n ≤ 512 := hI.1
        have hG := GB_Inv hn5 c1 c9 cx
        have eO : owd (cutS σ i m0) = owd σ := by
          funext j
          unfold owd
          by_cases hj : j < 18
          · rw [if_pos hj, if_pos hj]; exact cn_congr (fun q hq => and_congr_left' (c3 _ (by omega)))
          · rw [if_neg hj, if_neg hj]
        have g1 := cf_giveBack0 (Fu := F) (by omega) (show n ≤ 1000 by omega) c1 c9 c2
        obtain ⟨C', g2⟩ := cf_settle0 (C := C) hF (show n ≤ 600 by omega) c1 c9 c2
        rw [eO] at g2
        have e1 : s_V_cut F (zz (σ 2)) (zz z1) (zz (σ 4)) (zz (σ 5)) (zz (σ 6)) (nI i) (nI m0) (zz (σ 0)) (zz (σ 1)) v4 (zz (σ 8)) (zz (σ 9)) = some (nI (cn (fun k' => m0 ≤ k' ∧ pt (σ 1) i k' ≠ 0) 3), zz (GB (cutS σ i m0) 0), zz (GB (cutS σ i m0) 1), q', zz (GB (cutS σ i m0) 8), zz (GB (cutS σ i m0) 9)) := by
          unfold s_V_cut
          rw [bd_e eq]
          show (if pif _ (nI 1) (nI 0) = 0 then _ else _) = _
          rw [if_neg (fun z => pif01.mp z ht), if_neg a, if_pos (nI_le hm0 (by omega)), bd_e (cf_dropPointers (by omega) hT hi hm0)]
          show bd (s_V_giveBack F (zz (σ 4)) (zz (σ 5)) (zz (σ 6)) (zz (σ 0)) (zz (dT (σ 1) i m0 3)) (zz (dD (σ 1) (σ 8) i m0 3)) (zz (σ 9))) _ = _
          have g1' : s_V_giveBack F (zz (σ 4)) (zz (σ 5)) (zz (σ 6)) (zz (σ 0)) (zz (dT (σ 1) i m0 3)) (zz (dD (σ 1) (σ 8) i m0 3)) (zz (σ 9)) = _ := g1
          rw [bd_e g1']
        have e2 : s_R_cut F (zz (rM (σ 3) (σ 4) (σ 5))) (zz (σ 6)) (nI i) (nI m0) (zz (σ 8)) (zz (rM (σ 0) (σ 1) (σ 2))) (bz (fun i => σ 9 i = 2)) (zz (owd σ)) (zz C) (bz S1) = some (nI (cn (fun k' => m0 ≤ k' ∧ pt (σ 1) i k' ≠ 0) 3), zz (GB (cutS σ i m0) 8), zz (rM (GB (cutS σ i m0) 0) (GB (cutS σ i m0) 1) (σ 2)), bz (fun j => GB (cutS σ i m0) 9 j = 2), zz (owd (GB (cutS σ i m0))), zz C', bz S') := by
          unfold s_R_cut
          rw [if_neg a, if_neg b, bd_e eS]
          show (if pif _ (nI 1) (nI 0) = 0 then _ else _) = _
          rw [if_neg (fun z => pif01.mp z ht)]
          have k0 := cf_cut_25 (Fu := F) (A := σ 0) (W := σ 2) (D := σ 8) (dsk := zz (rM (σ 3) (σ 4) (σ 5))) (fresh := zz (σ 6)) (rl := bz (fun i => σ 9 i = 2)) (od := zz (owd σ)) (ct := zz C) (im' := bz S') (m0 := m0) hT hi hk (3 - m0) m0 F (by omega) (by omega) (Nat.le_refl _)
          rw [cn_zero.mpr (fun k hk q => by have := q.1; omega), dT_0, dD_0] at k0
          refine k0.trans ?_
          have g2' : s_R_settle F (zz (rM (σ 3) (σ 4) (σ 5))) (zz (σ 6)) (zz (dD (σ 1) (σ 8) i m0 3)) (zz (rM (σ 0) (dT (σ 1) i m0 3) (σ 2))) (bz (fun i => σ 9 i = 2)) (zz (owd σ)) (zz C) = _ := g2
          rw [bd_e g2']; rfl
        exact ⟨_, _, _, _, _, _, _, _, _, _, _, _, e1, e2, GB (cutS σ i m0), Inv_s hG hn, rfl, rfl, rfl, rfl, h4, rfl, rfl, rfl, h8, rfl, rfl, h11, rfl, rfl, rfl, h15, rfl, rfl, rfl, ⟨C', rfl⟩, ⟨S', rfl⟩, hrest⟩
      · refine ⟨-1, zz (σ 0), zz (σ 1), q', zz (σ 8), zz (σ 9), zz (σ 8), zz (rM (σ 0) (σ 1) (σ 2)), bz (fun i => σ 9 i = 2), zz (owd σ), zz C, bz S', ?_, ?_, σ, hI', rfl, rfl, rfl, rfl, h4, rfl, rfl, rfl, h8, rfl, rfl, h11, rfl, rfl, rfl, h15, rfl, rfl, rfl, ⟨C, rfl⟩, ⟨S', rfl⟩, hrest⟩
        · unfold s_V_cut
          rw [bd_e eq]
          show (if pif _ (nI 1) (nI 0) = 0 then _ else _) = _
          rw [if_pos (pif01.mpr ht)]
        · unfold s_R_cut
          rw [if_neg a, if_neg b, bd_e eS]
          show (if pif _ (nI 1) (nI 0) = 0 then _ else _) = _
          rw [if_pos (pif01.mpr ht)]
