-- write-back of a table
def heldw (σ : St) (m : Nat) : Prop := 2 ≤ m % 5 ∧ σ 1 m ≠ 0 ∧ σ 1 m ≠ σ 4 m ∧ (bm (σ 3) (σ 1 m) = 0 ∨ σ 6 (σ 1 m) ≠ 0)
noncomputable def tb4 (σ : St) (g k : Nat) : Nat → Nat := fun m => pif (30 * g ≤ m ∧ m < 30 * g + k ∧ ¬ heldw σ m) (σ 1 m) (σ 4 m)
noncomputable def ycl (y : Nat) (P : Nat → Prop) : Nat → Nat
  | 0 => y
  | k + 1 => pif (P k) (cb (ycl y P k) k) (ycl y P k)
def yg (σ : St) (g a c : Nat) : Prop := σ 2 (8 * a + c) % 32 / 6 = g
noncomputable def yS (σ : St) (g b c : Nat) : Nat → Nat := fun a => if a < b then ycl (σ 7 a) (yg σ g a) 8 else if a = b then ycl (σ 7 a) (yg σ g a) c else σ 7 a
noncomputable def tbS (σ : St) (g : Nat) : St := fun c => if c = 4 then tb4 σ g 30 else if c = 7 then yS σ g 36 0 else σ c
theorem bt_nI : ∀ y, y < 256 → ∀ c, c < 8 → bt (nI y) c = y.testBit c := by decide +kernel
theorem up_id {T : Nat → Nat} {k : Nat} : up T k (T k) = T := by
  funext j
  by_cases e : j = k
  · rw [e, up_s]
  · rw [up_n e]
section TB
variable {n F : Nat} {σ : St} {g : Nat}
theorem tb_0 : tb4 σ g 0 = σ 4 := by
  funext m; unfold tb4; rw [pif_f]; rintro ⟨a, b, _⟩; omega
theorem tb_s {k : Nat} (h : ¬ heldw σ (30 * g + k)) : up (tb4 σ g k) (30 * g + k) (σ 1 (30 * g + k)) = tb4 σ g (k + 1) := by
  funext m
  by_cases e : m = 30 * g + k
  · rw [e, up_s]; unfold tb4; rw [pif_t ⟨by omega, by omega, h⟩]
  · rw [up_n e]; unfold tb4
    exact pif_congr ⟨fun ⟨a, b, c⟩ => ⟨a, by omega, c⟩, fun ⟨a, b, c⟩ => ⟨a, by omega, c⟩⟩
theorem tb_h {k : Nat} (h : heldw σ (30 * g + k)) : tb4 σ g (k + 1) = tb4 σ g k := by
  funext m
  unfold tb4
  refine pif_congr ⟨fun ⟨a, b, c⟩ => ⟨a, ?_, c⟩, fun ⟨a, b, c⟩ => ⟨a, by omega, c⟩⟩
  by_cases e : m = 30 * g + k
  · rw [e] at c; exact absurd h c
  · omega
theorem tb_at {k : Nat} : tb4 σ g k (30 * g + k) = σ 4 (30 * g + k) := by
  unfold tb4; rw [pif_f]; rintro ⟨a, b, _⟩; omega
theorem tb_kd1 {i : Nat} (e : i / 6 = g) : kd (tbS σ g 4) i = kd (σ 1) i := by
  show pif _ (σ 1 (5 * i)) (σ 4 (5 * i)) = _
  rw [pif_t]; exact ⟨by omega, by omega, fun z => by have := z.1; omega⟩
theorem tb_kd0 {i : Nat} (e : i / 6 ≠ g) : kd (tbS σ g 4) i = kd (σ 4) i := by
  show pif _ (σ 1 (5 * i)) (σ 4 (5 * i)) = _
  rw [pif_f]; rintro ⟨a, b, _⟩; omega
theorem tb_lk1 {i : Nat} (e : i / 6 = g) : lk (tbS σ g 4) i = lk (σ 1) i := by
  show pif _ (σ 1 (5 * i + 1)) (σ 4 (5 * i + 1)) = _
  rw [pif_t]; exact ⟨by omega, by omega, fun z => by have := z.1; omega⟩
theorem tb_lk0 {i : Nat} (e : i / 6 ≠ g) : lk (tbS σ g 4) i = lk (σ 4) i := by
  show pif _ (σ 1 (5 * i + 1)) (σ 4 (5 * i + 1)) = _
  rw [pif_f]; rintro ⟨a, b, _⟩; omega
theorem tb_pt1 {i k : Nat} (hk : k < 3) (e : i / 6 = g) : pt (tbS σ g 4) i k = pif (heldw σ (5 * i + 2 + k)) (pt (σ 4) i k) (pt (σ 1) i k) := by
  show pif _ (σ 1 (5 * i + 2 + k)) (σ 4 (5 * i + 2 + k)) = _
  by_cases h : heldw σ (5 * i + 2 + k)
  · rw [pif_t h, pif_f (fun z => z.2.2 h)]
  · rw [pif_f h, pif_t ⟨by omega, by omega, h⟩]
theorem tb_pt0 {i k : Nat} (hk : k < 3) (e : i / 6 ≠ g) : pt (tbS σ g 4) i k = pt (σ 4) i k := by
  show pif _ (σ 1 (5 * i + 2 + k)) (σ 4 (5 * i + 2 + k)) = _
  rw [pif_f]; rintro ⟨a, b, _⟩; omega
theorem tb_pt {i k : Nat} (hk : k < 3) : (pt (tbS σ g 4) i k = pt (σ 4) i k ∧ (i / 6 = g → heldw σ (5 * i + 2 + k))) ∨ (i / 6 = g ∧ pt (tbS σ g 4) i k = pt (σ 1) i k ∧ ¬ heldw σ (5 * i + 2 + k)) := by
  by_cases e : i / 6 = g
  · by_cases h : heldw σ (5 * i + 2 + k)
    · left; exact ⟨by rw [tb_pt1 hk e, pif_t h], fun _ => h⟩
    · right; exact ⟨e, by rw [tb_pt1 hk e, pif_f h], h⟩
  · left; exact ⟨tb_pt0 hk e, fun z => absurd z e⟩
theorem ycl_ok {P : Nat → Prop} {y : Nat} (hy : y < 256) : ∀ k, k ≤ 8 → ycl y P k < 256 ∧ ∀ j, j < 8 → ((ycl y P k).testBit j = true ↔ y.testBit j = true ∧ ¬ (j < k ∧ P j)) := by
  intro k
  induction k with
  | zero => intro _; exact ⟨hy, fun j _ => ⟨fun z => ⟨z, fun w => by omega⟩, fun z => z.1⟩⟩
  | succ k ih =>
    intro hk
    obtain ⟨i1, i2⟩ := ih (by omega)
    show pif (P k) (cb (ycl y P k) k) (ycl y P k) < 256 ∧ ∀ j, j < 8 → ((pif (P k) (cb (ycl y P k) k) (ycl y P k)).testBit j = true ↔ _)
    by_cases p : P k
    · rw [pif_t p]
      obtain ⟨-, c2, c3⟩ := cb_ok _ i1 k (by omega)
      refine ⟨c2, fun j hj => ?_⟩
      rw [c3 j hj, i2 j hj]
      refine ⟨fun ⟨⟨a, b⟩, c⟩ => ⟨a, fun ⟨d, e⟩ => b ⟨by omega, e⟩⟩, fun ⟨a, b⟩ => ⟨⟨a, fun ⟨d, e⟩ => b ⟨by omega, e⟩⟩, fun e => b ⟨by omega, e ▸ p⟩⟩⟩
    · rw [pif_f p]
      refine ⟨i1, fun j hj => ?_⟩
      rw [i2 j hj]
      refine ⟨fun ⟨a, b⟩ => ⟨a, fun ⟨d, e⟩ => ?_⟩, fun ⟨a, b⟩ => ⟨a, fun ⟨d, e⟩ => b ⟨by omega, e⟩⟩⟩
      by_cases w : j = k
      · rw [w] at e; exact p e
      · exact b ⟨by omega, e⟩
theorem ycl_z {P : Nat → Prop} : ∀ k, ycl 0 P k = 0 := by
  intro k
  induction k with
  | zero => rfl
  | succ k ih =>
    show pif (P k) (cb (ycl 0 P k) k) (ycl 0 P k) = 0
    rw [ih]
    by_cases p : P k
    · rw [pif_t p]; unfold cb; rw [Nat.zero_testBit]; rfl
    · rw [pif_f p]
theorem tb_yb (h5 : V5 σ) {q : Nat} : yb (tbS σ g) q ↔ yb σ q ∧ ¬ σ 2 q % 32 / 6 = g := by
  refine ⟨fun ⟨a, b⟩ => ?_, fun ⟨⟨a, b⟩, c⟩ => ⟨a, ?_⟩⟩
  · have b' : (yS σ g 36 0 (q / 8)).testBit (q % 8) = true := b
    unfold yS at b'
    rw [if_pos (by omega)] at b'
    obtain ⟨b1, b2⟩ := ((ycl_ok (h5.2.1 (q / 8) (by omega)).2.1 8 (Nat.le_refl _)).2 (q % 8) (by omega)).mp b'
    refine ⟨⟨a, b1⟩, fun z => b2 ⟨by omega, ?_⟩⟩
    unfold yg; rw [show 8 * (q / 8) + q % 8 = q by omega]; exact z
  · show (yS σ g 36 0 (q / 8)).testBit (q % 8) = true
    unfold yS
    rw [if_pos (by omega)]
    refine ((ycl_ok (h5.2.1 (q / 8) (by omega)).2.1 8 (Nat.le_refl _)).2 (q % 8) (by omega)).mpr ⟨b, fun z => c ?_⟩
    have := z.2
    unfold yg at this; rw [show 8 * (q / 8) + q % 8 = q by omega] at this; exact this
theorem tb_Inw (h : Inv n σ) (hg : g < 3) : Inw n (tbS σ g) ∧ V9 (tbS σ g) ∧ VL (tbS σ g 1) ∧ Vx (tbS σ g) := by
  obtain ⟨hn, ⟨⟨hX1, hX4⟩, hL4, ⟨hJ1, hJ4⟩, ⟨hR1, hR4⟩, ⟨hn1, hn4⟩, h5, h6, h7, h8, h10, h11, h12, h13, h14, h15, h16, h17, h18, h19, h20⟩, hs⟩ := h
  obtain ⟨s1, s2, s3, s4⟩ := hs
  have k1 : ∀ i k, i < 18 → k < 3 → pt (σ 1) i k ≠ 0 → kd (σ 1) i ≠ 0 := fun i k hi hk z w => z (((hX1 i hi).2.2.1 w).2 k hk)
  have k4 : ∀ i k, i < 18 → k < 3 → pt (σ 4) i k ≠ 0 → kd (σ 4) i ≠ 0 := fun i k hi hk z w => z (((hX4 i hi).2.2.1 w).2 k hk)
  refine ⟨⟨⟨hX1, ?_⟩, ?_, ⟨hJ1, ?_⟩, ⟨hR1, ?_⟩, ⟨hn1, ?_⟩, ?_, h6, h7, ?_, ?_, ?_, ?_, h13, h14, h15, ?_, ?_, h18, ?_, h20⟩, s4, s1, fun i a b c d => by have := s1 i a b c; have d' : lk (σ 1) i = 0 := d; omega⟩
  · intro i hi
    obtain ⟨a, b, c, d⟩ := hX1 i hi
    obtain ⟨a', b', c', d'⟩ := hX4 i hi
    by_cases e : i / 6 = g
    · refine ⟨by rw [tb_kd1 e]; exact a, fun k hk => ?_, fun z => ?_, fun z => ?_⟩
      · rcases tb_pt (σ := σ) (g := g) (i := i) hk with ⟨x, _⟩ | ⟨_, x, _⟩
        · rw [x]; exact b' k hk
        · rw [x]; exact b k hk
      · rw [tb_kd1 e] at z
        refine ⟨by rw [tb_lk1 e]; exact (c z).1, fun k hk => ?_⟩
        rcases tb_pt (σ := σ) (g := g) (i := i) hk with ⟨x, y⟩ | ⟨_, x, _⟩
        · exact absurd ((c z).2 k hk) (y e).2.1
        · rw [x]; exact (c z).2 k hk
      · rw [tb_kd1 e] at z
        have hh : ∀ k, k < 3 → pt (σ 1) i k = 0 → pt (tbS σ g 4) i k = 0 := fun k hk w => by
          rcases tb_pt (σ := σ) (g := g) (i := i) hk with ⟨x, y⟩ | ⟨_, x, _⟩
          · exact absurd w (y e).2.1
          · rw [x]; exact w
        exact ⟨hh 1 (by omega) (d z).1, hh 2 (by omega) (d z).2⟩
    · rw [tb_kd0 e, tb_lk0 e]
      refine ⟨a', fun k hk => by rw [tb_pt0 hk e]; exact b' k hk, fun z => ⟨(c' z).1, fun k hk => by rw [tb_pt0 hk e]; exact (c' z).2 k hk⟩, fun z => ?_⟩
      rw [tb_pt0 (by omega) e, tb_pt0 (by omega) e]; exact d' z
  · intro i a b c
    by_cases e : i / 6 = g
    · rw [tb_kd1 e] at c; rw [tb_lk1 e]; exact s1 i a b c
    · rw [tb_kd0 e] at c; rw [tb_lk0 e]; exact hL4 i a b c
  · -- pointers of the disk
    have mix : ∀ i j k l, i < 18 → j < 18 → k < 3 → l < 3 → pt (σ 1) i k ≠ 0 → pt (σ 1) i k = pt (σ 4) j l → i = j ∧ k = l := by
      intro i j k l hi hj hk hl h0 he
      have z4 : pt (σ 4) j l ≠ 0 := by rw [← he]; exact h0
      rcases (h8 j l hj hl z4).2.2.2 with w | w
      · exact hJ1 i j k l hi hj hk hl h0 (he.trans w.symm)
      · have := (h6 i k hi hk h0).2
        rw [he, w.1] at this
        exact absurd this (k4 j l hj hl z4)
    intro i j k l hi hj hk hl h0 he
    rcases tb_pt (σ := σ) (g := g) (i := i) hk with ⟨x, _⟩ | ⟨_, x, _⟩
    · rcases tb_pt (σ := σ) (g := g) (i := j) hl with ⟨y, _⟩ | ⟨_, y, _⟩
      · rw [x] at h0 he; rw [y] at he; exact hJ4 i j k l hi hj hk hl h0 he
      · rw [x] at h0 he; rw [y] at he
        have := mix j i l k hj hi hl hk (by rw [← he]; exact h0) he.symm
        exact ⟨this.1.symm, this.2.symm⟩
    · rcases tb_pt (σ := σ) (g := g) (i := j) hl with ⟨y, _⟩ | ⟨_, y, _⟩
      · rw [x] at h0 he; rw [y] at he; exact mix i j k l hi hj hk hl h0 he
      · rw [x] at h0 he; rw [y] at he; exact hJ1 i j k l hi hj hk hl h0 he
  · refine ⟨?_, ?_⟩
    · by_cases e : 0 / 6 = g
      · rw [tb_kd1 e]; exact hR1.1
      · rw [tb_kd0 e]; exact hR4.1
    · rcases tb_pt (σ := σ) (g := g) (i := 0) (k := 0) (by omega) with ⟨x, _⟩ | ⟨_, x, _⟩
      · rw [x]; exact hR4.2
      · rw [x]; exact hR1.2
  · intro i hi
    by_cases e : i / 6 = g
    · rw [tb_lk1 e]; exact hn1 i hi
    · rw [tb_lk0 e]; exact hn4 i hi
  · refine ⟨h5.1, fun b hb => ⟨(h5.2.1 b hb).1, ?_, (h5.2.1 b hb).2.2⟩, h5.2.2⟩
    show yS σ g 36 0 b < 256
    unfold yS; rw [if_pos hb]
    exact (ycl_ok (h5.2.1 b hb).2.1 8 (Nat.le_refl _)).1
  · -- V8
    intro i k hi hk h0
    show bm (σ 0) _ = 1 ∧ bm (σ 3) _ = 1 ∧ σ 6 _ = 0 ∧ (pt (σ 1) i k = _ ∨ (σ 8 _ = _ ∧ (_ → kd (σ 1) i = 0)))
    rcases tb_pt (σ := σ) (g := g) (i := i) hk with ⟨x, y⟩ | ⟨e, x, y⟩
    · rw [x] at h0 ⊢
      obtain ⟨a, b, c, d⟩ := h8 i k hi hk h0
      refine ⟨a, b, c, ?_⟩
      by_cases e : i / 6 = g
      · obtain ⟨-, y1, y2, -⟩ := y e
        rw [tb_kd1 e]
        rcases d with d | d
        · exact absurd d y2
        · right
          have e4 := h10 i hi (k4 i k hi hk h0) (k1 i k hi hk y1)
          exact ⟨by rw [d.1]; exact e4, fun z => d.2 (by rw [e4]; exact z)⟩
      · rw [tb_kd0 e]; exact d
    · rw [x] at h0 ⊢
      obtain ⟨a, b⟩ := h6 i k hi hk h0
      by_cases w : pt (σ 1) i k = pt (σ 4) i k
      · obtain ⟨a', b', c', d'⟩ := h8 i k hi hk (by rw [← w]; exact h0)
        rw [← w] at b' c'
        exact ⟨a, b', c', Or.inl rfl⟩
      · have hD : isD (pt (σ 1) i k) := ((hX1 i hi).2.1 k hk).resolve_left h0
        refine ⟨a, ?_, ?_, Or.inl rfl⟩
        · have b1 := (h5.1 (pt (σ 1) i k / 12 * 16 + 4 + pt (σ 1) i k % 12) (by have := hD.1; have := hD.2; omega)).2
          have b2 : bm (σ 3) (pt (σ 1) i k) ≠ 0 := fun z => y ⟨by omega, h0, w, Or.inl z⟩
          have b1' : bm (σ 3) (pt (σ 1) i k) ≤ 1 := b1
          omega
        · exact Classical.byContradiction fun z => y ⟨by omega, h0, w, Or.inr z⟩
  · intro i hi a b
    by_cases e : i / 6 = g
    · rw [tb_kd1 e]; rfl
    · rw [tb_kd0 e] at a ⊢; exact h10 i hi a b
  · intro q hq hD h0
    obtain ⟨a, b, c, d, e⟩ := h11 q hq hD h0
    refine ⟨a, b, c, d, fun z => ?_⟩
    show kd (tbS σ g 4) (σ 2 q % 32) ≠ 0
    by_cases w : σ 2 q % 32 / 6 = g
    · rw [tb_kd1 w]; exact b
    · rw [tb_kd0 w]; exact e (fun y => z ((tb_yb h5).mpr ⟨y, w⟩))
  · intro q hq hD h0
    obtain ⟨a, b, c, d, e, f⟩ := h12 q hq hD h0
    refine ⟨a, b, c, ?_, e, fun z => ?_⟩
    · show kd (tbS σ g 4) (sn σ q % 32) ≠ 0
      by_cases w : sn σ q % 32 / 6 = g
      · rw [tb_kd1 w]; exact b
      · rw [tb_kd0 w]; exact d
    · have z' : kd (tbS σ g 4) (sn σ q % 32) = 2 := z
      show pt (tbS σ g 4) (sn σ q % 32) 0 ≠ 0
      rcases tb_pt (σ := σ) (g := g) (i := sn σ q % 32) (k := 0) (by omega) with ⟨x, y⟩ | ⟨w, x, y⟩
      · rw [x]
        by_cases w : sn σ q % 32 / 6 = g
        · rw [tb_kd1 w] at z'
          exact f (by rw [h10 _ a.2.2.2 d b]; exact z')
        · rw [tb_kd0 w] at z'; exact f z'
      · rw [x]
        rw [tb_kd1 w] at z'
        have e4 := h10 _ a.2.2.2 d b
        have p4 := f (by rw [e4]; exact z')
        rcases (h8 _ 0 a.2.2.2 (by omega) p4).2.2.2 with v | v
        · rw [v]; exact p4
        · exact absurd (v.2 (by rw [e4]; exact z')) b
  · -- V16
    intro i a b c
    by_cases e : i / 6 = g
    · rw [tb_kd1 e] at c
      rw [tb_lk1 e]
      refine Nat.le_trans (cn_mono (fun q _ ⟨x, y⟩ => ⟨x, ?_⟩)) (h15 i a b c)
      exact y.elim Or.inr (fun z => Or.inl z.1)
    · rw [tb_kd0 e] at c
      rw [tb_lk0 e]
      refine Nat.le_trans (cn_mono (fun q _ ⟨x, y⟩ => ⟨x, y.imp_right (fun ⟨s, t⟩ => ⟨s, fun r => t ((tb_yb h5).mpr ⟨r, ?_⟩)⟩)⟩)) (h16 i a b c)
      have s' : σ 2 q % 32 = i := s.2
      rw [s']; exact e
  · intro q y
    exact h17 q ((tb_yb h5).mp y).1
  · intro i hi a b
    by_cases e : i / 6 = g
    · rw [tb_kd1 e] at b; exact absurd a b
    · rw [tb_kd0 e] at b; exact h19 i hi a b
end TB
