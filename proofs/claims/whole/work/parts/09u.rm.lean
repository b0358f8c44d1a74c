-- taking an entry away
def cb (y c : Nat) : Nat := if y.testBit c then y - 2 ^ c else y
theorem cb_ok : ∀ y, y < 256 → ∀ c, c < 8 → (nI y &&& ((nI 1 <<< (nI c &&& 31)) ^^^ (-1)) = nI (cb y c) ∧ cb y c < 256 ∧ ∀ j, j < 8 → ((cb y c).testBit j = true ↔ y.testBit j = true ∧ j ≠ c)) := by decide +kernel
theorem GB_id {n : Nat} {σ : St} (h : Inw n σ) (hI : Ins σ) : GB σ = σ := by
  obtain ⟨i1, i2, i3, i4⟩ := hI
  have hC : Cl σ (fun _ => False) (fun _ => False) := by
    refine ⟨fun i a b c d => ?_, fun b h0 hb hd ho => ?_⟩
    · rw [UF_F] at d; have := i1 i a b c; omega
    · rcases ho with z | ⟨_, _, _, _, z, _⟩
      · exact hd (i2 b hb z)
      · exact z
  have hJ : ∀ i, Js σ i ↔ False := fun i => ⟨fun q => q _ _ hC, fun q => q.elim⟩
  have hF : ∀ b, Fs σ b ↔ False := fun b => ⟨fun q => q _ _ hC, fun q => q.elim⟩
  have hN : ∀ i, NN σ i ↔ False := fun i => ⟨fun q => q.2.2.elim (hJ i).mp (fun z => i3 i q.1 z q.2.1), fun q => q.elim⟩
  rw [GB_def, app_congr hJ hF hN]
  funext c
  match c with
  | 0 => exact app_0
  | 1 =>
    funext m
    show (if m % 5 = 1 then σ 1 m - UF σ (fun _ => False) (m / 5) else pif False 0 (σ 1 m)) = _
    rw [UF_F, pif_f (fun q => q)]; split <;> rfl
  | 8 => exact app_8
  | 9 =>
    funext m
    show pif False 0 (pif False 2 (pif (0 < m ∧ m < 18 ∧ kd (σ 1) m ≠ 0 ∧ lk (σ 1) m ≤ UF σ (fun _ => False) m) 1 (σ 9 m))) = _
    rw [pif_f (fun q => q), pif_f (fun q => q), pif_f]
    rintro ⟨a, b, c, d⟩
    rw [UF_F] at d; have := i1 m a b c; omega
  | 2 => rfl
  | 3 => rfl
  | 4 => rfl
  | 5 => rfl
  | 6 => rfl
  | 7 => rfl
  | _ + 10 => rfl
def rmS (σ : St) (q δ : Nat) : St := fun c => if c = 1 then up (σ 1) (5 * (σ 2 q % 32) + 1) (lk (σ 1) (σ 2 q % 32) - δ) else if c = 2 then up (σ 2) q 0 else if c = 7 then up (σ 7) (q / 8) (cb (σ 7 (q / 8)) (q % 8)) else σ c
section RM
variable {n : Nat} {σ : St} {q δ : Nat}
theorem rm_kd {j : Nat} : kd (rmS σ q δ 1) j = kd (σ 1) j := by
  show up _ _ _ (5 * j) = _; rw [up_n (by omega)]
theorem rm_pt {j k : Nat} (hk : k < 3) : pt (rmS σ q δ 1) j k = pt (σ 1) j k := by
  show up _ _ _ (5 * j + 2 + k) = _; rw [up_n (by omega)]
theorem rm_lk {j : Nat} : lk (rmS σ q δ 1) j = if j = σ 2 q % 32 then lk (σ 1) j - δ else lk (σ 1) j := by
  show up _ _ _ (5 * j + 1) = _
  by_cases e : j = σ 2 q % 32
  · rw [if_pos e, ← e, up_s]
  · rw [if_neg e, up_n (by omega)]
theorem rm_w {p : Nat} : rmS σ q δ 2 p = if p = q then 0 else σ 2 p := rfl
theorem rm_yb (h5 : V5 σ) {p : Nat} (hq : q < 288) : yb (rmS σ q δ) p ↔ yb σ p ∧ p ≠ q := by
  show (p < 288 ∧ (up (σ 7) (q / 8) (cb (σ 7 (q / 8)) (q % 8)) (p / 8)).testBit (p % 8) = true) ↔ (p < 288 ∧ (σ 7 (p / 8)).testBit (p % 8) = true) ∧ p ≠ q
  by_cases e : p / 8 = q / 8
  · have hb := ((cb_ok (σ 7 (q / 8)) (h5.2.1 _ (by omega)).2.1 (q % 8) (by omega)).2.2 (p % 8) (by omega))
    rw [e, up_s, hb]
    exact ⟨fun ⟨a, b, c⟩ => ⟨⟨a, b⟩, fun z => c (by rw [z])⟩, fun ⟨⟨a, b⟩, c⟩ => ⟨a, b, fun z => c (by omega)⟩⟩
  · rw [up_n e]
    exact ⟨fun z => ⟨z, fun y => e (by rw [y])⟩, fun z => z.1⟩
theorem rm_DB {b : Nat} : DB (rmS σ q δ) b ↔ DB σ b := by
  refine and_congr_right' (or_congr Iff.rfl ⟨fun ⟨j, a, c, d⟩ => ⟨j, a, ?_, ?_⟩, fun ⟨j, a, c, d⟩ => ⟨j, a, ?_, ?_⟩⟩)
  · rw [rm_kd] at c; exact c
  · rw [rm_pt (by omega)] at d; exact d
  · rw [rm_kd]; exact c
  · rw [rm_pt (by omega)]; exact d
theorem rm_nm {j p : Nat} : nmM (rmS σ q δ) j p ↔ nmM σ j p ∧ p ≠ q := by
  show (rmS σ q δ 2 p ≠ 0 ∧ rmS σ q δ 2 p % 32 = j) ↔ _
  rw [rm_w]
  by_cases e : p = q
  · rw [if_pos e]; exact ⟨fun z => absurd rfl z.1, fun z => absurd e z.2⟩
  · rw [if_neg e]; exact ⟨fun z => ⟨z, e⟩, fun z => z.1⟩
theorem rm_Un_le {j : Nat} : Un (rmS σ q δ) j ≤ Un σ j :=
  cn_mono (fun p _ z => ⟨rm_DB.mp z.1, z.2.imp_left (fun y => (rm_nm.mp y).1)⟩)
theorem rm_Un_1 (hq : q < 288) (hD : DB σ (q / 8)) (h0 : σ 2 q ≠ 0) (hs : sn σ q = 0) : Un σ (σ 2 q % 32) = Un (rmS σ q δ) (σ 2 q % 32) + 1 := by
  refine cn_one (k := q) hq ⟨hD, Or.inl ⟨h0, rfl⟩⟩ (fun z => z.2.elim (fun y => (rm_nm.mp y).2 rfl) (fun y => y.1 hs)) (fun p _ hp => ?_)
  refine and_congr rm_DB.symm (or_congr ⟨fun z => rm_nm.mpr ⟨z, hp⟩, fun z => (rm_nm.mp z).1⟩ Iff.rfl)
theorem rm_Inw (h : Inw n σ) (hI : Ins σ) (hq : q < 288) (hD : DB σ (q / 8)) (h0 : σ 2 q ≠ 0) (hδ : δ = if sn σ q = 0 then 1 else 0) (hE : kd (σ 1) (σ 2 q % 32) = 2 → (∀ c, c < 8 → σ 2 (8 * pt (σ 1) (σ 2 q % 32) 0 + c) = 0) ∨ ∃ p, p ≠ q ∧ p < 288 ∧ DB σ (p / 8) ∧ nmM σ (σ 2 q % 32) p) : Inw n (rmS σ q δ) ∧ V9 (rmS σ q δ) ∧ Vx (rmS σ q δ) ∧ V7s (rmS σ q δ) ∧ V18s (rmS σ q δ) := by
  obtain ⟨⟨hX1, hX4⟩, hL4, ⟨hJ1, hJ4⟩, ⟨hR1, hR4⟩, ⟨hn1, hn4⟩, h5, h6, h7, h8, h10, h11, h12, h13, h14, h15, h16, h17, h18, h19, h20⟩ := id h
  obtain ⟨i1, i2, i3, i4⟩ := hI
  obtain ⟨ek, ekd, eim, ept, -⟩ := h11 q hq hD h0
  refine ⟨⟨⟨?_, hX4⟩, hL4, ⟨?_, hJ4⟩, ⟨?_, hR4⟩, ⟨?_, hn4⟩, ?_, ?_, h7, ?_, ?_, ?_, ?_, ?_, ?_, ?_, ?_, ?_, ?_, ?_, ?_⟩, i4, ?_, i2, i3⟩
  · intro j hj
    obtain ⟨a, b, c, d⟩ := hX1 j hj
    refine ⟨by rw [rm_kd]; exact a, fun k hk => by rw [rm_pt hk]; exact b k hk, fun z => ?_, fun z => ?_⟩
    · rw [rm_kd] at z
      refine ⟨?_, fun k hk => by rw [rm_pt hk]; exact (c z).2 k hk⟩
      rw [rm_lk, if_neg (fun e => ekd (by rw [← e]; exact z))]; exact (c z).1
    · rw [rm_kd] at z; rw [rm_pt (by omega), rm_pt (by omega)]; exact d z
  · intro a b k l ha hb hk hl g0 he
    rw [rm_pt hk] at g0 he; rw [rm_pt hl] at he; exact hJ1 a b k l ha hb hk hl g0 he
  · exact ⟨by rw [rm_kd]; exact hR1.1, by rw [rm_pt (by omega)]; exact hR1.2⟩
  · intro j hj; rw [rm_lk]; have := hn1 j hj; split <;> omega
  · refine ⟨h5.1, fun b hb => ⟨(h5.2.1 b hb).1, ?_, (h5.2.1 b hb).2.2⟩, h5.2.2.1, fun p hp => ⟨?_, (h5.2.2.2 p hp).2⟩⟩
    · show up (σ 7) (q / 8) (cb (σ 7 (q / 8)) (q % 8)) b < 256
      by_cases e : b = q / 8
      · rw [e, up_s]; exact (cb_ok _ (h5.2.1 _ (by omega)).2.1 _ (by omega)).2.1
      · rw [up_n e]; exact (h5.2.1 b hb).2.1
    · rw [rm_w]; split
      · omega
      · exact (h5.2.2.2 p hp).1
  · intro j k hj hk g0; rw [rm_pt hk] at g0 ⊢; exact h6 j k hj hk g0
  · intro j k hj hk g0
    obtain ⟨a, b, c, d⟩ := h8 j k hj hk g0
    exact ⟨a, b, c, d.imp (fun z => by rw [rm_pt hk]; exact z) (fun z => ⟨z.1, fun y => by rw [rm_kd]; exact z.2 y⟩)⟩
  · intro j hj a b; rw [rm_kd] at b ⊢; exact h10 j hj a b
  · intro p hp hD' g0
    have hpq : p ≠ q := fun e => g0 (by rw [rm_w, if_pos e])
    have e2 : rmS σ q δ 2 p = σ 2 p := by rw [rm_w, if_neg hpq]
    rw [e2] at g0 ⊢
    obtain ⟨a, b, c, d, e⟩ := h11 p hp (rm_DB.mp hD') g0
    exact ⟨a, by rw [rm_kd]; exact b, c, by rw [rm_kd, rm_pt (by omega)]; exact d, fun z => e (fun y => z ((rm_yb h5 hq).mpr ⟨y, hpq⟩))⟩
  · intro p hp hD' g0
    obtain ⟨a, b, c⟩ := h12 p hp (rm_DB.mp hD') g0
    exact ⟨a, by rw [rm_kd]; exact b, c⟩
  · intro p hp hD' a b
    have hpq : p ≠ q := fun e => a (by rw [rm_w, if_pos e])
    have e2 : rmS σ q δ 2 p = σ 2 p := by rw [rm_w, if_neg hpq]
    rw [e2] at a ⊢; exact h13 p hp (rm_DB.mp hD') a b
  · intro p hp e
    rw [rm_w]; split
    · rfl
    · exact h14 p hp e
  · intro j g0 hj hk
    rw [rm_kd] at hk
    have a := h15 j g0 hj hk
    have b := rm_Un_le (σ := σ) (q := q) (δ := δ) (j := j)
    rw [rm_lk]
    by_cases e : j = σ 2 q % 32
    · rw [if_pos e]
      by_cases hs : sn σ q = 0
      · rw [if_pos hs] at hδ
        have := rm_Un_1 (δ := δ) hq hD h0 hs
        rw [← e] at this; omega
      · rw [if_neg hs] at hδ; omega
    · rw [if_neg e]; omega
  · intro j g0 hj hk
    refine Nat.le_trans (cn_mono (fun p _ z => ⟨rm_DB.mp z.1, z.2.imp_right (fun y => ?_)⟩)) (h16 j g0 hj hk)
    obtain ⟨y1, y2⟩ := y
    obtain ⟨y3, y4⟩ := rm_nm.mp y1
    exact ⟨y3, fun w => y2 ((rm_yb h5 hq).mpr ⟨w, y4⟩)⟩
  · intro p hy
    obtain ⟨y1, y2⟩ := (rm_yb h5 hq).mp hy
    obtain ⟨a, b, j, j1, j2, j3⟩ := h17 p y1
    exact ⟨⟨by rw [rm_w, if_neg y2]; exact a.1, a.2⟩, b, j, j1, by rw [rm_kd]; exact j2, by rw [rm_pt (by omega)]; exact j3⟩
  · intro j hj e; rw [rm_kd]; exact h18 j hj e
  · intro j hj a b; rw [rm_kd] at a; exact h19 j hj a b
  · intro j g0 hj g2 hp hno hc
    rw [rm_kd] at g2
    rw [rm_pt (by omega)] at hp hc
    have b := rm_Un_le (σ := σ) (q := q) (δ := δ) (j := j)
    by_cases e : j = σ 2 q % 32
    · exfalso
      rcases hE (by rw [← e]; exact g2) with z | ⟨p, p1, p2, p3, p4⟩
      · obtain ⟨c, c1, c2⟩ := hc
        rw [← e] at z
        rw [rm_w] at c2
        split at c2
        · exact c2 rfl
        · exact c2 (z c c1)
      · exact hno p p2 (rm_DB.mpr p3) (rm_nm.mpr ⟨by rw [e]; exact p4, p1⟩)
    · rw [rm_lk, if_neg e]
      refine Nat.lt_of_le_of_lt b (h20 j g0 hj g2 hp (fun p hp' hD' hm => hno p hp' (rm_DB.mpr hD') (rm_nm.mpr ⟨hm, fun z => ?_⟩)) ?_)
      · subst z; exact e hm.2.symm
      · obtain ⟨c, c1, c2⟩ := hc
        refine ⟨c, c1, ?_⟩
        rw [rm_w] at c2
        split at c2
        · exact absurd rfl c2
        · exact c2
  · intro j g0 hj hk hl
    rw [rm_kd] at hk
    rw [rm_lk] at hl
    by_cases e : j = σ 2 q % 32
    · rw [e]; exact eim
    · rw [if_neg e] at hl; have := i1 j g0 hj hk; omega
end RM
