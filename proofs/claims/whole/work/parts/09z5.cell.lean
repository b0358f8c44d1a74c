-- write-back of a directory's block: the states
def fcSw (σ : St) (b : Nat) : St := fun c => if c = 5 then (if σ 6 b = 0 then σ 5 else cp (σ 5) z1 (8 * b) 8) else if c = 6 then up (σ 6) b 0 else σ c
def wrS (σ : St) (q e : Nat) : St := fun c => if c = 1 then (if e = 0 then up (σ 1) (5 * (sn σ q % 32) + 1) (lk (σ 1) (sn σ q % 32) - 1) else σ 1) else if c = 5 then up (σ 5) q e else σ c
section FC
variable {n F : Nat} {σ : St} {b : Nat}
theorem fc_6 {a : Nat} : fcSw σ b 6 a = if a = b then 0 else σ 6 a := rfl
theorem fc_5 {q : Nat} : fcSw σ b 5 q = (if σ 6 b = 0 then σ 5 else cp (σ 5) z1 (8 * b) 8) q := rfl
theorem fc_5n {q : Nat} (e : q / 8 ≠ b) : fcSw σ b 5 q = σ 5 q := by
  rw [fc_5]; split
  · rfl
  · unfold cp; rw [if_neg (by omega)]
theorem fc_5b {q : Nat} (e : q / 8 = b) : fcSw σ b 5 q = sn σ q := by
  rw [fc_5]; unfold sn; rw [e]; split
  · rfl
  · unfold cp; rw [if_pos (by omega)]; rfl
theorem fc_sn {q : Nat} : sn (fcSw σ b) q = sn σ q := by
  by_cases e : q / 8 = b
  · have : sn (fcSw σ b) q = fcSw σ b 5 q := by
      show (if fcSw σ b 6 (q / 8) = 0 then _ else _) = _
      rw [fc_6, if_pos e, if_pos rfl]
    rw [this, fc_5b e]
  · show (if fcSw σ b 6 (q / 8) = 0 then fcSw σ b 5 q else 0) = _
    rw [fc_6, if_neg e, fc_5n e]; rfl
theorem fc_Inv (h : Inv n σ) (hb : b < 36) : Inv n (fcSw σ b) ∧ owd (fcSw σ b) = owd σ := by
  obtain ⟨hn, ⟨⟨hX1, hX4⟩, hL4, ⟨hJ1, hJ4⟩, ⟨hR1, hR4⟩, ⟨hn1, hn4⟩, h5, h6, h7, h8, h10, h11, h12, h13, h14, h15, h16, h17, h18, h19, h20⟩, hs⟩ := h
  have hnD : ∀ i q, nmD (fcSw σ b) i q ↔ nmD σ i q := fun i q => by unfold nmD; rw [fc_sn]
  have hUn : ∀ j, Un (fcSw σ b) j = Un σ j := fun j => cn_congr (fun q _ => and_congr_right (fun z => or_congr Iff.rfl (hnD j q)))
  have hUd : ∀ j, Ud (fcSw σ b) j = Ud σ j := fun j => cn_congr (fun q _ => and_congr_right (fun z => or_congr (hnD j q) Iff.rfl))
  have hO : owd (fcSw σ b) = owd σ := by
    funext j
    unfold owd
    split
    · exact cn_congr (fun q _ => and_congr_right (fun z => and_congr_right (fun _ => hnD j q)))
    · rfl
  refine ⟨⟨hn, ⟨⟨hX1, hX4⟩, hL4, ⟨hJ1, hJ4⟩, ⟨hR1, hR4⟩, ⟨hn1, hn4⟩, ?_, h6, h7, ?_, h10, h11, ?_, ?_, h14, ?_, ?_, ?_, h18, h19, ?_⟩, hs⟩, hO⟩
  · refine ⟨h5.1, fun a ha => ⟨?_, (h5.2.1 a ha).2⟩, ⟨h5.2.2.1.1, fun a ha z => ?_⟩, fun q hq => ⟨(h5.2.2.2 q hq).1, ?_⟩⟩
    · rw [fc_6]; split
      · omega
      · exact (h5.2.1 a ha).1
    · rw [fc_6]; split
      · rfl
      · exact h5.2.2.1.2 a ha z
    · by_cases e : q / 8 = b
      · rw [fc_5b e]; unfold sn; split
        · exact (h5.2.2.2 q hq).2
        · omega
      · rw [fc_5n e]; exact (h5.2.2.2 q hq).2
  · intro i k hi hk z
    obtain ⟨a1, a2, a3, a4⟩ := h8 i k hi hk z
    refine ⟨a1, a2, ?_, a4⟩
    show fcSw σ b 6 (pt (σ 4) i k) = 0
    rw [fc_6]; split
    · rfl
    · exact a3
  · intro q hq' z y
    rw [fc_sn] at y ⊢
    exact h12 q hq' z y
  · intro q hq' z y w
    rw [fc_sn] at w ⊢
    exact h13 q hq' z y w
  · intro j a b' c; rw [hUn]; exact h15 j a b' c
  · intro j a b' c; rw [hUd]; exact h16 j a b' c
  · intro q y
    rw [fc_sn]
    exact h17 q y
  · intro j a b' c d e f; rw [hUn]; exact h20 j a b' c d e f
end FC
section WR
variable {n F : Nat} {σ : St} {q e : Nat}
theorem wr_1 {m : Nat} (h : m % 5 ≠ 1) : wrS σ q e 1 m = σ 1 m := by
  show (if e = 0 then up (σ 1) (5 * (sn σ q % 32) + 1) (lk (σ 1) (sn σ q % 32) - 1) else σ 1) m = _
  split
  · rw [up_n (by omega)]
  · rfl
theorem wr_kd {j : Nat} : kd (wrS σ q e 1) j = kd (σ 1) j := wr_1 (by omega)
theorem wr_pt {j k : Nat} (hk : k < 3) : pt (wrS σ q e 1) j k = pt (σ 1) j k := wr_1 (by omega)
theorem wr_lk {j : Nat} : lk (wrS σ q e 1) j = if e = 0 ∧ j = sn σ q % 32 then lk (σ 1) j - 1 else lk (σ 1) j := by
  show (if e = 0 then up (σ 1) (5 * (sn σ q % 32) + 1) (lk (σ 1) (sn σ q % 32) - 1) else σ 1) (5 * j + 1) = _
  by_cases a : e = 0
  · rw [if_pos a]
    by_cases b : j = sn σ q % 32
    · rw [if_pos ⟨a, b⟩, ← b, up_s]
    · rw [if_neg (fun z => b z.2), up_n (by omega)]
  · rw [if_neg a, if_neg (fun z => a z.1)]
theorem wr_sn (h6 : σ 6 (q / 8) = 0) {p : Nat} : sn (wrS σ q e) p = if p = q then e else sn σ p := by
  show (if σ 6 (p / 8) = 0 then up (σ 5) q e p else 0) = _
  by_cases a : p = q
  · rw [if_pos a, a, if_pos h6, up_s]
  · rw [if_neg a, up_n a]; rfl
theorem wr_DB {b : Nat} : DB (wrS σ q e) b ↔ DB σ b := by
  refine and_congr_right' (or_congr Iff.rfl ⟨fun ⟨j, a, c, d⟩ => ⟨j, a, ?_, ?_⟩, fun ⟨j, a, c, d⟩ => ⟨j, a, ?_, ?_⟩⟩)
  · rw [wr_kd] at c; exact c
  · rw [wr_pt (by omega)] at d; exact d
  · rw [wr_kd]; exact c
  · rw [wr_pt (by omega)]; exact d
def Ea (σ : St) (q : Nat) : Prop := yb σ q ∨ im (σ 3) (σ 2 q % 32) = 0 ∨ (kd (σ 1) (σ 2 q % 32) = 2 ∧ pt (σ 4) (σ 2 q % 32) 0 = 0)
def Wz (σ : St) (q e : Nat) : Prop := σ 2 q = e ∧ ((e = 0 ∧ sn σ q ≠ 0) ∨ (e ≠ 0 ∧ sn σ q = 0 ∧ ¬ Ea σ q))
theorem wr_Inw (h : Inw n σ) (hq : q < 288) (hD : DB σ (q / 8)) (h6q : σ 6 (q / 8) = 0) (hW : Wz σ q e) : Inw n (wrS σ q e) := by
  obtain ⟨⟨hX1, hX4⟩, hL4, ⟨hJ1, hJ4⟩, ⟨hR1, hR4⟩, ⟨hn1, hn4⟩, h5, h6, h7, h8, h10, h11, h12, h13, h14, h15, h16, h17, h18, h19, h20⟩ := h
  obtain ⟨we, wz⟩ := hW
  have hnM : ∀ j p, nmM (wrS σ q e) j p ↔ nmM σ j p := fun j p => Iff.rfl
  have hnD : ∀ j p, p ≠ q → (nmD (wrS σ q e) j p ↔ nmD σ j p) := fun j p z => by unfold nmD; rw [wr_sn h6q, if_neg z]
  have hnDq : ∀ j, nmD (wrS σ q e) j q ↔ e ≠ 0 ∧ e % 32 = j := fun j => by unfold nmD; rw [wr_sn h6q, if_pos rfl]
  -- what the cell names
  have hUn : ∀ j, Un (wrS σ q e) j + (if e = 0 ∧ j = sn σ q % 32 then 1 else 0) = Un σ j := by
    intro j
    by_cases a : e = 0 ∧ j = sn σ q % 32
    · rw [if_pos a]
      have z := wz.resolve_right (fun w => w.1 a.1)
      refine (cn_one (k := q) hq ⟨hD, Or.inr ⟨z.2, a.2.symm⟩⟩ (fun w => ?_) (fun p _ hp => ?_)).symm
      · exact w.2.elim (fun y => y.1 (we.trans a.1)) (fun y => ((hnDq j).mp y).1 a.1)
      · exact and_congr wr_DB.symm (or_congr Iff.rfl (hnD j p hp).symm)
    · rw [if_neg a, Nat.add_zero]
      refine cn_congr (fun p _ => and_congr wr_DB ?_)
      by_cases hp : p = q
      · rw [hp, hnDq]
        rcases wz with ⟨z1, z2⟩ | ⟨z1, z2, z3⟩
        · refine or_congr Iff.rfl ⟨fun y => absurd z1 y.1, fun y => absurd ⟨z1, y.2.symm⟩ a⟩
        · refine ⟨fun y => Or.inl ?_, fun y => Or.inl ?_⟩
          · rcases y with y | y
            · exact y
            · exact ⟨by rw [we]; exact y.1, by rw [we]; exact y.2⟩
          · rcases y with y | y
            · exact y
            · exact absurd z2 y.1
      · exact or_congr Iff.rfl (hnD j p hp)
  have hUd : ∀ j, Ud (wrS σ q e) j ≤ Ud σ j := by
    intro j
    refine cn_mono (fun p hp ⟨x, y⟩ => ⟨wr_DB.mp x, ?_⟩)
    by_cases hpq : p = q
    · rw [hpq] at y ⊢
      rw [hnDq] at y
      rcases y with y | y
      · rcases wz with ⟨z1, z2⟩ | ⟨z1, z2, z3⟩
        · exact absurd z1 y.1
        · exact Or.inr ⟨⟨by rw [we]; exact y.1, by rw [we]; exact y.2⟩, fun w => z3 (Or.inl w)⟩
      · exact Or.inr y
    · exact y.imp_left (hnD j p hpq).mp
  refine ⟨⟨?_, hX4⟩, hL4, ⟨?_, hJ4⟩, ⟨?_, hR4⟩, ⟨?_, hn4⟩, ?_, ?_, h7, ?_, ?_, ?_, ?_, ?_, h14, ?_, ?_, ?_, ?_, ?_, ?_⟩
  · intro j hj
    obtain ⟨a, b, c, d⟩ := hX1 j hj
    refine ⟨by rw [wr_kd]; exact a, fun k hk => by rw [wr_pt hk]; exact b k hk, fun z => ?_, fun z => ?_⟩
    · rw [wr_kd] at z
      refine ⟨?_, fun k hk => by rw [wr_pt hk]; exact (c z).2 k hk⟩
      rw [wr_lk, (c z).1]; split <;> rfl
    · rw [wr_kd] at z; rw [wr_pt (by omega), wr_pt (by omega)]; exact d z
  · intro a b k l ha hb hk hl g0 he
    rw [wr_pt hk] at g0 he; rw [wr_pt hl] at he; exact hJ1 a b k l ha hb hk hl g0 he
  · exact ⟨by rw [wr_kd]; exact hR1.1, by rw [wr_pt (by omega)]; exact hR1.2⟩
  · intro j hj; rw [wr_lk]; have := hn1 j hj; split <;> omega
  · refine ⟨h5.1, h5.2.1, h5.2.2.1, fun p hp => ⟨(h5.2.2.2 p hp).1, ?_⟩⟩
    show up (σ 5) q e p < 2 ^ 32
    by_cases a : p = q
    · rw [a, up_s, ← we]; exact (h5.2.2.2 q hq).1
    · rw [up_n a]; exact (h5.2.2.2 p hp).2
  · intro j k hj hk g0; rw [wr_pt hk] at g0 ⊢; exact h6 j k hj hk g0
  · intro j k hj hk g0
    obtain ⟨a, b, c, d⟩ := h8 j k hj hk g0
    exact ⟨a, b, c, d.imp (fun z => by rw [wr_pt hk]; exact z) (fun z => ⟨z.1, fun y => by rw [wr_kd]; exact z.2 y⟩)⟩
  · intro j hj a b; rw [wr_kd] at b ⊢; exact h10 j hj a b
  · intro p hp hD' g0
    obtain ⟨a, b, c, d, f⟩ := h11 p hp (wr_DB.mp hD') g0
    exact ⟨a, by rw [wr_kd]; exact b, c, by rw [wr_kd, wr_pt (by omega)]; exact d, f⟩
  · intro p hp hD' g0
    rw [wr_sn h6q] at g0 ⊢
    by_cases a : p = q
    · rw [if_pos a] at g0 ⊢
      rcases wz with ⟨z1, z2⟩ | ⟨z1, z2, z3⟩
      · exact absurd z1 g0
      · obtain ⟨y1, y2, y3, y4, y5⟩ := h11 q hq hD (by rw [we]; exact g0)
        rw [we] at y1 y2 y3 y4 y5
        have y6 : kd (σ 4) (e % 32) ≠ 0 := y5 (fun w => z3 (Or.inl w))
        have i18 := y1.2.2.2
        refine ⟨y1, by rw [wr_kd]; exact y2, y3, y6, ?_, fun w => ?_⟩
        · have b3 : im (σ 3) (e % 32) ≤ 1 := (h5.1 (e % 32 / 6 * 16 + e % 32 % 6) (by omega)).2
          have : im (σ 3) (e % 32) ≠ 0 := fun w => z3 (Or.inr (Or.inl (by rw [we]; exact w)))
          show im (σ 3) (e % 32) = 1
          omega
        · intro w2
          refine z3 (Or.inr (Or.inr ?_))
          rw [we]
          exact ⟨by rw [← h10 _ i18 y6 y2]; exact w, w2⟩
    · rw [if_neg a] at g0 ⊢
      obtain ⟨y1, y2, y3⟩ := h12 p hp (wr_DB.mp hD') g0
      exact ⟨y1, by rw [wr_kd]; exact y2, y3⟩
  · intro p hp hD' a b
    rw [wr_sn h6q] at b ⊢
    by_cases c : p = q
    · rw [if_pos c, c]; exact we
    · rw [if_neg c] at b ⊢; exact h13 p hp (wr_DB.mp hD') a b
  · intro j g0 hj hk
    rw [wr_kd] at hk
    have a := h15 j g0 hj hk
    have b := hUn j
    rw [wr_lk]
    by_cases c : e = 0 ∧ j = sn σ q % 32
    · rw [if_pos c] at b ⊢; omega
    · rw [if_neg c] at b ⊢; omega
  · intro j g0 hj hk
    exact Nat.le_trans (hUd j) (h16 j g0 hj hk)
  · intro p hy
    obtain ⟨⟨a, a'⟩, b, j, j1, j2, j3⟩ := h17 p hy
    refine ⟨⟨a, ?_⟩, b, j, j1, by rw [wr_kd]; exact j2, by rw [wr_pt (by omega)]; exact j3⟩
    rw [wr_sn h6q]
    by_cases c : p = q
    · rw [if_pos c]
      rw [c] at a hy
      rcases wz with ⟨z1, z2⟩ | ⟨z1, z2, z3⟩
      · exact z1
      · exact absurd (Or.inl hy) z3
    · rw [if_neg c]; exact a'
  · intro j hj e; rw [wr_kd]; exact h18 j hj e
  · intro j hj a b; rw [wr_kd] at a; exact h19 j hj a b
  · intro j g0 hj g2 hp hno hc
    rw [wr_kd] at g2
    rw [wr_pt (by omega)] at hp hc
    have a := h20 j g0 hj g2 hp (fun p hp' hD' hm => hno p hp' (wr_DB.mpr hD') hm) hc
    have b := hUn j
    rw [wr_lk]
    by_cases c : e = 0 ∧ j = sn σ q % 32
    · rw [if_pos c] at b ⊢; omega
    · rw [if_neg c] at b ⊢; omega
-- what a directory's write-back lets fall
def J0 (σ : St) (i : Nat) : Prop := 0 < i ∧ i < 18 ∧ kd (σ 1) i ≠ 0 ∧ lk (σ 1) i = 0
def F0w (σ : St) (b : Nat) : Prop := 0 < b ∧ b < 36 ∧ ¬ dn σ b ∧ ∃ i k, i < 18 ∧ k < 3 ∧ J0 σ i ∧ pt (σ 1) i k = b
def Vd (σ : St) : Prop := ∀ i, J0 σ i → im (σ 0) i = 1 ∧ kd (σ 4) i ≠ 0 ∧ (kd (σ 1) i = 2 → dn σ (pt (σ 1) i 0))
def Gdw (n : Nat) (σ : St) : Prop := Inw n σ ∧ V9 σ ∧ V7s σ ∧ V18s σ ∧ Vd σ
theorem Inv_Gd (h : Inv n σ) : Gdw n σ := by
  obtain ⟨-, h1, s1, s2, s3, s4⟩ := h
  exact ⟨h1, s4, s2, s3, fun i z => by have := s1 i z.1 z.2.1 z.2.2.1; have := z.2.2.2; omega⟩
theorem Gd_Vx (h : Gdw n σ) : Vx σ := fun i a b c d => (h.2.2.2.2 i ⟨a, b, c, d⟩).1
theorem wr_Gd (h : Gdw n σ) (hq : q < 288) (hD : DB σ (q / 8)) (h6q : σ 6 (q / 8) = 0) (hW : Wz σ q e) : Gdw n (wrS σ q e) := by
  have w1 := wr_Inw h.1 hq hD h6q hW
  refine ⟨w1, h.2.1, h.2.2.1, h.2.2.2.1, fun i ⟨a, b, c, d⟩ => ?_⟩
  rw [wr_kd] at c
  rw [wr_lk] at d
  rw [wr_kd, wr_pt (by omega)]
  by_cases z : e = 0 ∧ i = sn σ q % 32
  · have s0 : sn σ q ≠ 0 := (hW.2.resolve_right (fun w => w.1 z.1)).2
    obtain ⟨y1, y2, y3, y4, y5, y6⟩ := Inw_V12 h.1 q hq hD s0
    rw [← z.2] at y2 y3 y4 y5 y6
    refine ⟨y3, y4, fun w => ?_⟩
    have e4 := Inw_V10 h.1 i b y4 y2
    have p4 := y6 (by rw [e4]; exact w)
    rcases (Inw_V8 h.1 i 0 b (by omega) p4).2.2.2 with v | v
    · exact ⟨i, 0, b, by omega, v.symm⟩
    · exact absurd (v.2 (by rw [e4]; exact w)) y2
  · rw [if_neg z] at d
    exact h.2.2.2.2 i ⟨a, b, c, d⟩
end WR
