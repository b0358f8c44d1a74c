-- write-back of a map's and of a file's block
noncomputable abbrev OutB (r : Int32) (σ : St) (q q2 : AR) : Option (Int32 × AR × AR × AR × AR × AR × AR × AR × AR × AR × AR × AR) := some (r, zz (σ 0), zz (σ 1), q, zz (σ 3), zz (σ 4), zz (σ 5), zz (σ 6), q2, zz (σ 7), zz (σ 8), zz (σ 9))
noncomputable abbrev OutF (r : Int32) (σ : St) (C : Nat → Nat) (S1 S2 S3 : Nat → Prop) : Option (Int32 × AR × AR × AR × AR × AR × AR × AR × AR × AR × AR × AR) := some (r, bz (yb σ), zz (σ 8), zz (rM (σ 0) (σ 1) (σ 2)), zz (rM (σ 3) (σ 4) (σ 5)), zz (σ 6), bz (fun i => σ 9 i = 2), zz (owd σ), zz C, bz S1, bz S2, bz S3)
def cbS (σ : St) (b : Nat) : St := fun c => if c = 3 then (if b % 12 = 0 then cp (σ 3) (σ 0) (b / 12 * 16) 16 else σ 3) else if c = 5 then (if b % 12 = 0 then σ 5 else cp (σ 5) (σ 2) (8 * b) 8) else if c = 6 then up (σ 6) b 0 else σ c
section CB
variable {n F : Nat} {σ : St} {b : Nat}
theorem cb_3 {m : Nat} : cbS σ b 3 m = σ 0 m ∨ cbS σ b 3 m = σ 3 m := by
  show (if b % 12 = 0 then cp (σ 3) (σ 0) (b / 12 * 16) 16 else σ 3) m = σ 0 m ∨ (if b % 12 = 0 then cp (σ 3) (σ 0) (b / 12 * 16) 16 else σ 3) m = σ 3 m
  by_cases e : b % 12 = 0
  · rw [if_pos e]; unfold cp; split
    · exact Or.inl rfl
    · exact Or.inr rfl
  · rw [if_neg e]; exact Or.inr rfl
theorem cb_5 {q : Nat} : cbS σ b 5 q = σ 2 q ∨ cbS σ b 5 q = σ 5 q := by
  show (if b % 12 = 0 then σ 5 else cp (σ 5) (σ 2) (8 * b) 8) q = σ 2 q ∨ (if b % 12 = 0 then σ 5 else cp (σ 5) (σ 2) (8 * b) 8) q = σ 5 q
  by_cases e : b % 12 = 0
  · rw [if_pos e]; exact Or.inr rfl
  · rw [if_neg e]; unfold cp; split
    · exact Or.inl rfl
    · exact Or.inr rfl
theorem cb_6 {a : Nat} : cbS σ b 6 a = if a = b then 0 else σ 6 a := rfl
theorem cb_5n {q : Nat} (e : q / 8 ≠ b) : cbS σ b 5 q = σ 5 q := by
  show (if b % 12 = 0 then σ 5 else cp (σ 5) (σ 2) (8 * b) 8) q = _
  by_cases e0 : b % 12 = 0
  · rw [if_pos e0]
  · rw [if_neg e0]; unfold cp; rw [if_neg (by omega)]
theorem cb_sn {q : Nat} (e : q / 8 ≠ b) : sn (cbS σ b) q = sn σ q := by
  unfold sn
  rw [cb_6, if_neg e, cb_5n e]
theorem cb_Inv (h : Inv n σ) (hb : b < 36) (hD : ¬ DB σ b) : Inv n (cbS σ b) ∧ owd (cbS σ b) = owd σ := by
  obtain ⟨hn, ⟨⟨hX1, hX4⟩, hL4, ⟨hJ1, hJ4⟩, ⟨hR1, hR4⟩, ⟨hn1, hn4⟩, h5, h6, h7, h8, h10, h11, h12, h13, h14, h15, h16, h17, h18, h19, h20⟩, hs⟩ := h
  have hq : ∀ q, DB σ (q / 8) → sn (cbS σ b) q = sn σ q := fun q z => cb_sn (fun e => hD (e ▸ z))
  have hnD : ∀ i q, DB σ (q / 8) → (nmD (cbS σ b) i q ↔ nmD σ i q) := fun i q z => by unfold nmD; rw [hq q z]
  have hUn : ∀ j, Un (cbS σ b) j = Un σ j := fun j => cn_congr (fun q _ => and_congr_right (fun z => or_congr Iff.rfl (hnD j q z)))
  have hUd : ∀ j, Ud (cbS σ b) j = Ud σ j := fun j => cn_congr (fun q _ => and_congr_right (fun z => or_congr (hnD j q z) Iff.rfl))
  have hO : owd (cbS σ b) = owd σ := by
    funext j
    unfold owd
    split
    · exact cn_congr (fun q _ => and_congr_right (fun z => and_congr_right (fun _ => hnD j q z)))
    · rfl
  refine ⟨⟨hn, ⟨⟨hX1, hX4⟩, hL4, ⟨hJ1, hJ4⟩, ⟨hR1, hR4⟩, ⟨hn1, hn4⟩, ?_, h6, h7, ?_, h10, h11, ?_, ?_, h14, ?_, ?_, ?_, h18, h19, ?_⟩, hs⟩, hO⟩
  · refine ⟨fun m hm => ⟨(h5.1 m hm).1, ?_⟩, fun a ha => ⟨?_, (h5.2.1 a ha).2⟩, ⟨h5.2.2.1.1, fun a ha z => ?_⟩, fun q hq => ⟨(h5.2.2.2 q hq).1, ?_⟩⟩
    · rcases cb_3 (σ := σ) (b := b) (m := m) with e | e
      · rw [e]; exact (h5.1 m hm).1
      · rw [e]; exact (h5.1 m hm).2
    · rw [cb_6]; split
      · omega
      · exact (h5.2.1 a ha).1
    · rw [cb_6]; split
      · rfl
      · exact h5.2.2.1.2 a ha z
    · rcases cb_5 (σ := σ) (b := b) (q := q) with e | e
      · rw [e]; exact (h5.2.2.2 q hq).1
      · rw [e]; exact (h5.2.2.2 q hq).2
  · intro i k hi hk z
    obtain ⟨a1, a2, a3, a4⟩ := h8 i k hi hk z
    refine ⟨a1, ?_, ?_, a4⟩
    · rcases cb_3 (σ := σ) (b := b) (m := (pt (σ 4) i k) / 12 * 16 + 4 + (pt (σ 4) i k) % 12) with e | e
      · exact e.trans a1
      · exact e.trans a2
    · show cbS σ b 6 (pt (σ 4) i k) = 0
      rw [cb_6]; split
      · rfl
      · exact a3
  · intro q hq' z y
    rw [hq q z] at y ⊢
    obtain ⟨a1, a2, a3, a4, a5, a6⟩ := h12 q hq' z y
    refine ⟨a1, a2, a3, a4, ?_, a6⟩
    rcases cb_3 (σ := σ) (b := b) (m := (sn σ q % 32) / 6 * 16 + (sn σ q % 32) % 6) with e | e
    · exact e.trans a3
    · exact e.trans a5
  · intro q hq' z y w
    rw [hq q z] at w ⊢
    exact h13 q hq' z y w
  · intro j a b' c; rw [hUn]; exact h15 j a b' c
  · intro j a b' c; rw [hUd]; exact h16 j a b' c
  · intro q y
    obtain ⟨⟨a1, a2⟩, a3, i, i1, i2, i3⟩ := h17 q y
    refine ⟨⟨a1, ?_⟩, a3, i, i1, i2, i3⟩
    rw [hq q ⟨a3, Or.inr ⟨i, i1, i2, i3⟩⟩]; exact a2
  · intro j a b' c d e f; rw [hUn]; exact h20 j a b' c d e f
-- the class gives back at a write-back's end
theorem wb_112 {mw mb : AR} {x : Int32} {q q2 : AR} {τ : St} (hF : 100 < F) (hn : n ≤ 1000) (h : Inw n τ) (h9 : V9 τ) : s_V_writeBack_112 F mw mb x (zz (τ 0)) (zz (τ 1)) q (zz (τ 3)) (zz (τ 4)) (zz (τ 5)) (zz (τ 6)) q2 (zz (τ 7)) (zz (τ 8)) (zz (fun i => pif (0 < i ∧ i < 18 ∧ kd (τ 1) i ≠ 0 ∧ lk (τ 1) i = 0) 1 (τ 9 i))) = OutB x (GB τ) q q2 := by
  unfold s_V_writeBack_112
  rw [bd_e (cf_giveBack hF hn h h9)]; rfl
theorem wb_112' {mw mb : AR} {x : Int32} {q q2 : AR} {τ : St} (hF : 100 < F) (hn : n ≤ 1000) (h : Inw n τ) (h9 : V9 τ) (hL : VL (τ 1)) : s_V_writeBack_112 F mw mb x (zz (τ 0)) (zz (τ 1)) q (zz (τ 3)) (zz (τ 4)) (zz (τ 5)) (zz (τ 6)) q2 (zz (τ 7)) (zz (τ 8)) (zz (τ 9)) = OutB x (GB τ) q q2 := by
  unfold s_V_writeBack_112
  rw [bd_e (cf_giveBack0 hF hn h h9 hL)]; rfl
theorem wb_59 {x : Int32} {q q2 : AR} (hF : 100 < F) (h : Inv n σ) (hb : b < 36) (h1 : b % 12 ≠ 1) (hD : ¬ DB σ b) : s_V_writeBack_59 F (zz (σ 2)) (zz z1) (nI b) x (zz (σ 0)) (zz (σ 1)) q (zz (σ 3)) (zz (σ 4)) (zz (σ 5)) (zz (σ 6)) q2 (zz (σ 7)) (zz (σ 8)) (zz (σ 9)) = OutB x (cbS σ b) q q2 := by
  obtain ⟨h', -⟩ := cb_Inv h hb hD
  have g := wb_112' (F := F) (mw := zz (σ 2)) (mb := zz z1) (x := x) (q := q) (q2 := q2) (τ := cbS σ b) hF (by have := h.1; omega) h'.2.1 h'.2.2.2.2.2 h'.2.2.1
  rw [GB_id h'.2.1 h'.2.2] at g
  unfold s_V_writeBack_59
  by_cases e : b % 12 = 0
  · rw [bd_e (cf_copyBlock_0 (by omega) hb e)]
    show bd (s_S_setBlank (nI b) (nI 0) (zz (σ 6))) _ = _
    rw [bd_e (cf_setBlank hb (by omega))]
    have e3 : cbS σ b 3 = cp (σ 3) (σ 0) (b / 12 * 16) 16 := if_pos e
    have e5 : cbS σ b 5 = σ 5 := if_pos e
    rw [e3, e5] at g
    exact g
  · rw [bd_e (cf_copyBlock_2 (by omega) ⟨hb, by omega⟩)]
    show bd (s_S_setBlank (nI b) (nI 0) (zz (σ 6))) _ = _
    rw [bd_e (cf_setBlank hb (by omega))]
    have e3 : cbS σ b 3 = σ 3 := if_neg e
    have e5 : cbS σ b 5 = cp (σ 5) (σ 2) (8 * b) 8 := if_neg e
    rw [e3, e5] at g
    exact g
-- the reference's copy
theorem ix30 {b c : Nat} : nI 30 * nI b + nI c = nI (30 * b + c) := by rw [pk_mul, nI_add]
section F56
variable {y dr mem rl od ct i1 i2 i3 : AR} {A T W M : Nat → Nat}
theorem fl_97 {K : Nat → Nat} {dsk : AR} (hb : b < 36) : s_R_flush_97 F (nI b) (nI 1) y dr mem dsk (zz K) rl od ct i1 i2 i3 = some (nI 0, y, dr, mem, dsk, zz (up K b 0), rl, od, ct, i1, i2, i3) := by
  unfold s_R_flush_97 s_R_flush_120 s_R_flush_121
  rw [gr_e b rfl hb (by decide), ga_e b rfl hb (by decide), nI_clamp (by omega), nar0, zz_up]
  split
  · rfl
  · rw [if_pos rfl]
theorem fl_56_0 {K : Nat → Nat} (hb : b < 36) (h0 : b % 12 = 0) : ∀ (r c m : Nat), c + r = 16 → r < m → s_R_flush_56 F m (nI b) (nI 1) (nI c) y dr (zz (rM M T W)) (zz (rM (cp A M (b / 12 * 16) c) (σ 4) (σ 5))) (zz K) rl od ct i1 i2 i3 = some (nI 0, y, dr, zz (rM M T W), zz (rM (cp A M (b / 12 * 16) 16) (σ 4) (σ 5)), zz (up K b 0), rl, od, ct, i1, i2, i3) := by
  intro r
  induction r with
  | zero =>
    intro c m hc hm
    obtain ⟨m, rfl⟩ : ∃ q, m = q + 1 := ⟨m - 1, by omega⟩
    unfold s_R_flush_56
    rw [bd_e (cf_size hb), sz_0 h0, if_pos (nI_le (by omega) (by omega)), fl_97 hb, show c = 16 by omega]
  | succ r ih =>
    intro c m hc hm
    obtain ⟨m, rfl⟩ : ∃ q, m = q + 1 := ⟨m - 1, by omega⟩
    have this := ih (c + 1) m (by omega) (by omega)
    unfold s_R_flush_56
    rw [bd_e (cf_size hb), sz_0 h0, if_neg (nI_ge (by omega) (by omega)), if_pos rfl, ix30, gr_e _ rfl (by omega) (by decide), ga_e _ rfl (by omega) (by decide), nI_clamp (by omega)]
    show s_R_flush_56 F m (nI b) (nI 1) (nI c + nI 1) _ _ _ (upd _ _ (nI (rM M T W (30 * b + c)))) _ _ _ _ _ _ _ = _
    rw [zz_up, nI_add, rM_0 (by omega) (by omega) (by omega), up_0 (by omega) (by omega) (by omega), show (30 * b + c) / 30 / 12 * 16 + (30 * b + c) % 30 = b / 12 * 16 + c by omega, cp_s]
    exact this
theorem fl_56_2 {K : Nat → Nat} (hb : isD b) : ∀ (r c m : Nat), c + r = 8 → r < m → s_R_flush_56 F m (nI b) (nI 1) (nI c) y dr (zz (rM M T W)) (zz (rM (σ 3) (σ 4) (cp A W (8 * b) c))) (zz K) rl od ct i1 i2 i3 = some (nI 0, y, dr, zz (rM M T W), zz (rM (σ 3) (σ 4) (cp A W (8 * b) 8)), zz (up K b 0), rl, od, ct, i1, i2, i3) := by
  have hb36 := hb.1
  have hb2 := hb.2
  intro r
  induction r with
  | zero =>
    intro c m hc hm
    obtain ⟨m, rfl⟩ : ∃ q, m = q + 1 := ⟨m - 1, by omega⟩
    unfold s_R_flush_56
    rw [bd_e (cf_size hb36), sz_2 hb2, if_pos (nI_le (by omega) (by omega)), fl_97 hb36, show c = 8 by omega]
  | succ r ih =>
    intro c m hc hm
    obtain ⟨m, rfl⟩ : ∃ q, m = q + 1 := ⟨m - 1, by omega⟩
    have this := ih (c + 1) m (by omega) (by omega)
    unfold s_R_flush_56
    rw [bd_e (cf_size hb36), sz_2 hb2, if_neg (nI_ge (by omega) (by omega)), if_pos rfl, ix30, gr_e _ rfl (by omega) (by decide), ga_e _ rfl (by omega) (by decide), nI_clamp (by omega)]
    show s_R_flush_56 F m (nI b) (nI 1) (nI c + nI 1) _ _ _ (upd _ _ (nI (rM M T W (30 * b + c)))) _ _ _ _ _ _ _ = _
    rw [zz_up, nI_add, rM_w hb (by omega), up_w hb (by omega), cp_s]
    exact this
end F56
theorem fl_42 {C : Nat → Nat} {S1 S2 S3 : Nat → Prop} (hF : 100 < F) (h : Inv n σ) (hb : b < 36) (h1 : b % 12 ≠ 1) (hD : ¬ DB σ b) : s_R_flush_42 F (nI b) (nI 1) (bz (yb σ)) (zz (σ 8)) (zz (rM (σ 0) (σ 1) (σ 2))) (zz (rM (σ 3) (σ 4) (σ 5))) (zz (σ 6)) (bz (fun i => σ 9 i = 2)) (zz (owd σ)) (zz C) (bz S1) (bz S2) (bz S3) = OutF (nI 0) (cbS σ b) C S1 S2 S3 := by
  obtain ⟨-, hO⟩ := cb_Inv h hb hD
  unfold s_R_flush_42
  rw [if_neg (show ¬ (nI 1 : Int32) = nI 2 by decide)]
  show _ = some (nI 0, _, _, _, _, _, _, zz (owd (cbS σ b)), _)
  rw [hO]
  by_cases e : b % 12 = 0
  · have g := fl_56_0 (F := F) (σ := σ) (y := bz (yb σ)) (dr := zz (σ 8)) (rl := bz (fun i => σ 9 i = 2)) (od := zz (owd σ)) (ct := zz C) (i1 := bz S1) (i2 := bz S2) (i3 := bz S3) (A := σ 3) (M := σ 0) (T := σ 1) (W := σ 2) (K := σ 6) hb e 16 0 F rfl (by omega)
    rw [cp_0] at g
    have e3 : cbS σ b 3 = cp (σ 3) (σ 0) (b / 12 * 16) 16 := if_pos e
    have e5 : cbS σ b 5 = σ 5 := if_pos e
    rw [g, e3, e5]; rfl
  · have g := fl_56_2 (F := F) (σ := σ) (b := b) (y := bz (yb σ)) (dr := zz (σ 8)) (rl := bz (fun i => σ 9 i = 2)) (od := zz (owd σ)) (ct := zz C) (i1 := bz S1) (i2 := bz S2) (i3 := bz S3) (A := σ 5) (M := σ 0) (T := σ 1) (W := σ 2) (K := σ 6) ⟨hb, by omega⟩ 8 0 F rfl (by omega)
    rw [cp_0] at g
    have e3 : cbS σ b 3 = σ 3 := if_neg e
    have e5 : cbS σ b 5 = cp (σ 5) (σ 2) (8 * b) 8 := if_neg e
    rw [g, e3, e5]; rfl
end CB
