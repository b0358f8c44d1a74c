-- an inode taken
def nwS (σ : St) (i κ : Nat) : St := fun c => if c = 0 then up (σ 0) (i / 6 * 16 + i % 6) 1 else if c = 1 then up (σ 1) (5 * i) κ else σ c
section NW
variable {n F : Nat} {σ : St} {i κ : Nat}
theorem nw_kd1 : kd (nwS σ i κ 1) i = κ := up_s
theorem nw_kd0 {j : Nat} (h : j ≠ i) : kd (nwS σ i κ 1) j = kd (σ 1) j := up_n (by omega)
theorem nw_lk {j : Nat} : lk (nwS σ i κ 1) j = lk (σ 1) j := up_n (by omega)
theorem nw_pt {j k : Nat} (hk : k < 3) : pt (nwS σ i κ 1) j k = pt (σ 1) j k := up_n (by omega)
theorem nw_im1 : im (nwS σ i κ 0) i = 1 := up_s
theorem nw_im0 {j : Nat} (h : j ≠ i) : im (nwS σ i κ 0) j = im (σ 0) j := up_n (by omega)
theorem nw_bm {b : Nat} (hb : isD b) : bm (nwS σ i κ 0) b = bm (σ 0) b := up_n (by have := hb.2; omega)
theorem nw_Inw (h : Inw n σ) (hi : i < 18) (hk : kd (σ 1) i = 0) (hm : im (σ 0) i = 0) (hκ : κ = 1 ∨ κ = 2) :
    Inw n (nwS σ i κ) ∧ (∀ b, DB (nwS σ i κ) b ↔ DB σ b) ∧ owd (nwS σ i κ) = owd σ ∧ (Ins σ → V7s (nwS σ i κ) ∧ V18s (nwS σ i κ) ∧ V9 (nwS σ i κ) ∧ ∀ j, 0 < j → j < 18 → kd (nwS σ i κ 1) j ≠ 0 → j ≠ i → 0 < lk (nwS σ i κ 1) j) := by
  obtain ⟨⟨a1, a2⟩, b1, ⟨c1, c2⟩, ⟨d1, d2⟩, ⟨f1, f2⟩, g5, g6, g7, g8, g10, g11, g12, g13, g14, g15, g16, g17, g18, g19, g20⟩ := h
  have p0 : ∀ k, k < 3 → pt (σ 1) i k = 0 := ((a1 i hi).2.2.1 hk).2
  have l0 : lk (σ 1) i = 0 := ((a1 i hi).2.2.1 hk).1
  have i0 : i ≠ 0 := by intro z; rw [z, d1.1] at hk; omega
  have n9 : σ 9 i ≠ 2 := fun z => by have := (g18 i hi z).2; omega
  have n4 : kd (σ 4) i = 0 := Classical.byContradiction fun z => n9 (g19 i hi hk z)
  have hDB : ∀ b, DB (nwS σ i κ) b ↔ DB σ b := fun b => by
    refine and_congr_right (fun e0 => or_congr Iff.rfl ⟨fun ⟨j, x, y, z⟩ => ?_, fun ⟨j, x, y, z⟩ => ?_⟩)
    · rw [nw_pt (by omega)] at z
      have e : j ≠ i := fun e => by rw [e, p0 0 (by omega)] at z; exact e0 z.symm
      rw [nw_kd0 e] at y
      exact ⟨j, x, y, z⟩
    · have e : j ≠ i := fun e => by rw [e, p0 0 (by omega)] at z; exact e0 z.symm
      exact ⟨j, x, by rw [nw_kd0 e]; exact y, by rw [nw_pt (by omega)]; exact z⟩
  have hUn : ∀ j, Un (nwS σ i κ) j = Un σ j := fun j => cn_congr (fun q _ => and_congr_left' (hDB _))
  have hUd : ∀ j, Ud (nwS σ i κ) j = Ud σ j := fun j => cn_congr (fun q _ => and_congr_left' (hDB _))
  have hU0 : Un σ i = 0 := cn_zero.mpr (fun q hq ⟨x, y⟩ => by
    rcases y with y | y
    · exact (g11 q hq x y.1).2.1 (by rw [y.2]; exact hk)
    · exact (g12 q hq x y.1).2.1 (by rw [y.2]; exact hk))
  refine ⟨⟨⟨?_, a2⟩, b1, ⟨?_, c2⟩, ⟨?_, d2⟩, ⟨?_, f2⟩, ?_, ?_, ?_, ?_, ?_, ?_, ?_, ?_, g14, ?_, ?_, ?_, ?_, ?_, ?_⟩, hDB, ?_, ?_⟩
  · intro j hj
    obtain ⟨x1, x2, x3, x4⟩ := a1 j hj
    rw [nw_lk, nw_pt (by omega), nw_pt (by omega)]
    have hp : ∀ k, k < 3 → pt (nwS σ i κ 1) j k = 0 ∨ isD (pt (nwS σ i κ 1) j k) := fun k hk => by rw [nw_pt hk]; exact x2 k hk
    by_cases e : j = i
    · rw [e, nw_kd1]
      exact ⟨by omega, by rw [e] at hp; exact hp, fun z => by omega, fun _ => ⟨p0 1 (by omega), p0 2 (by omega)⟩⟩
    · rw [nw_kd0 e]
      exact ⟨x1, hp, fun z => ⟨(x3 z).1, fun k hk => by rw [nw_pt hk]; exact (x3 z).2 k hk⟩, x4⟩
  · intro j j' l l' hj hj' hl hl' x y
    rw [nw_pt hl] at x y
    rw [nw_pt hl'] at y
    exact c1 j j' l l' hj hj' hl hl' x y
  · exact ⟨by rw [nw_kd0 (Ne.symm i0)]; exact d1.1, by rw [nw_pt (by omega)]; exact d1.2⟩
  · intro j hj; rw [nw_lk]; exact f1 j hj
  · refine ⟨fun m hm => ⟨?_, (g5.1 m hm).2⟩, g5.2⟩
    show up _ _ _ m ≤ 1
    by_cases e : m = i / 6 * 16 + i % 6
    · rw [e, up_s]; omega
    · rw [up_n e]; exact (g5.1 m hm).1
  · intro j l hj hl z
    rw [nw_pt hl] at z ⊢
    have := g6 j l hj hl z
    exact ⟨by rw [nw_bm (((a1 j hj).2.1 l hl).resolve_left z)]; exact this.1, this.2⟩
  · intro b hb z
    have := g7 b hb z
    exact ⟨this.1, by rw [nw_bm this.1]; exact this.2⟩
  · intro j l hj hl z
    have z' : pt (σ 4) j l ≠ 0 := z
    obtain ⟨x1, x2, x3, x4⟩ := g8 j l hj hl z'
    refine ⟨?_, x2, x3, ?_⟩
    · show bm (nwS σ i κ 0) (pt (σ 4) j l) = 1
      rw [nw_bm (((a2 j hj).2.1 l hl).resolve_left z')]; exact x1
    · rw [nw_pt hl]
      refine x4.imp_right (fun w => ⟨w.1, fun y => ?_⟩)
      have e : j ≠ i := fun e => by
        have y' : kd (σ 4) j = 2 := y
        rw [e, n4] at y'; cases y'
      rw [nw_kd0 e]; exact w.2 y
  · intro j hj x y
    have e : j ≠ i := fun e => x (by rw [e]; exact n4)
    rw [nw_kd0 e] at y ⊢
    exact g10 j hj x y
  · intro q hq hD z
    obtain ⟨u1, u2, u3, u4, u5⟩ := g11 q hq ((hDB _).mp hD) z
    have e : σ 2 q % 32 ≠ i := fun e => u2 (by rw [e]; exact hk)
    show ok (σ 2 q) ∧ kd (nwS σ i κ 1) (σ 2 q % 32) ≠ 0 ∧ im (nwS σ i κ 0) (σ 2 q % 32) = 1 ∧ (kd (nwS σ i κ 1) (σ 2 q % 32) = 2 → pt (nwS σ i κ 1) (σ 2 q % 32) 0 ≠ 0) ∧ _
    rw [nw_kd0 e, nw_im0 e, nw_pt (by omega)]
    exact ⟨u1, u2, u3, u4, u5⟩
  · intro q hq hD z
    obtain ⟨u1, u2, u3, u4⟩ := g12 q hq ((hDB _).mp hD) z
    have e : sn σ q % 32 ≠ i := fun e => u2 (by rw [e]; exact hk)
    show ok (sn σ q) ∧ kd (nwS σ i κ 1) (sn σ q % 32) ≠ 0 ∧ im (nwS σ i κ 0) (sn σ q % 32) = 1 ∧ _
    rw [nw_kd0 e, nw_im0 e]
    exact ⟨u1, u2, u3, u4⟩
  · intro q hq hD z y; exact g13 q hq ((hDB _).mp hD) z y
  · intro j x y z
    rw [hUn, nw_lk]
    by_cases e : j = i
    · rw [e, hU0]; omega
    · rw [nw_kd0 e] at z; exact g15 j x y z
  · intro j x y z; rw [hUd]; exact g16 j x y z
  · intro q z
    obtain ⟨u1, u2, j, hj, u3, u4⟩ := g17 q z
    have e : j ≠ i := fun e => by rw [e, p0 0 (by omega)] at u4; exact u2 u4.symm
    exact ⟨u1, u2, j, hj, by rw [nw_kd0 e]; exact u3, by rw [nw_pt (by omega)]; exact u4⟩
  · intro j hj z
    have e : j ≠ i := fun e => n9 (by rw [← e]; exact z)
    rw [nw_kd0 e, nw_im0 e]; exact g18 j hj z
  · intro j hj y z
    have e : j ≠ i := fun e => z (by rw [e]; exact n4)
    rw [nw_kd0 e] at y; exact g19 j hj y z
  · intro j x y z w u v
    rw [nw_pt (by omega)] at w
    have e : j ≠ i := fun e => w (by rw [e]; exact p0 0 (by omega))
    rw [nw_kd0 e] at z
    rw [hUn, nw_lk]
    obtain ⟨c, hc, hv⟩ := v
    rw [nw_pt (by omega)] at hv
    exact g20 j x y z w (fun q hq hD t => u q hq ((hDB _).mpr hD) t) ⟨c, hc, hv⟩
  · funext j
    unfold owd
    by_cases hj : j < 18
    · rw [if_pos hj, if_pos hj]; exact cn_congr (fun q _ => and_congr_left' (hDB _))
    · rw [if_neg hj, if_neg hj]
  · intro hI
    exact ⟨hI.2.1, hI.2.2.1, hI.2.2.2, fun j x y z w => by rw [nw_kd0 w] at z; rw [nw_lk]; exact hI.1 j x y z⟩
theorem tk_nm {k b : Nat} (h : Inw n σ) (hi : i < 18) (hk : k < 3) (h0 : pt (σ 1) i k = 0) (hb : isD b) (hm : bm (σ 0) b = 0) {p : Nat} (hD : DB σ (p / 8)) : p / 8 ≠ b ∧ DB (tkS σ i k b) (p / 8) ∧ tkS σ i k b 2 p = σ 2 p ∧ sn (tkS σ i k b) p = sn σ p := by
  have b0 : b ≠ 0 := by have := hb.2; intro z; rw [z] at this; omega
  have e : p / 8 ≠ b := by
    intro e
    rcases hD.2 with z | ⟨j, hj, -, z⟩
    · have := (Inw_V7 h (p / 8) (by rw [e]; exact hb.1) (by rw [z]; decide)).2
      rw [e] at this; omega
    · have := (Inw_V6 h j 0 hj (by omega) (by rw [z]; exact hD.1)).1
      rw [z, e] at this; omega
  refine ⟨e, ⟨hD.1, ?_⟩, by rw [tk_w, if_neg e], by rw [tk_sn, if_neg e]⟩
  rcases hD.2 with z | ⟨j, hj, y, z⟩
  · exact Or.inl z
  · refine Or.inr ⟨j, hj, by rw [tk_kd hk]; exact y, ?_⟩
    rw [tk_pt0 hk (by omega)]
    · exact z
    · intro w; rw [w.1, w.2, h0] at z; exact hD.1 z.symm
end NW
