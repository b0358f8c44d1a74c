-- a block taken for a pointer; a word written into a file's block
def tkS (σ : St) (i k b : Nat) : St := fun c => if c = 0 then up (σ 0) (b / 12 * 16 + 4 + b % 12) 1 else if c = 1 then up (σ 1) (5 * i + 2 + k) b else if c = 2 then cp (σ 2) z1 (8 * b) 8 else if c = 6 then up (σ 6) b 1 else if c = 7 then up (σ 7) b 0 else σ c
def wdS (σ : St) (q v : Nat) : St := fun c => if c = 2 then up (σ 2) q v else σ c
section TK
variable {n F : Nat} {σ : St} {i k b : Nat}
theorem tk_kd (hk : k < 3) {j : Nat} : kd (tkS σ i k b 1) j = kd (σ 1) j := by
  show up _ _ _ (5 * j) = _; rw [up_n (by omega)]
theorem tk_lk (hk : k < 3) {j : Nat} : lk (tkS σ i k b 1) j = lk (σ 1) j := by
  show up _ _ _ (5 * j + 1) = _; rw [up_n (by omega)]
theorem tk_pt1 : pt (tkS σ i k b 1) i k = b := by
  show up _ _ _ (5 * i + 2 + k) = _; rw [up_s]
theorem tk_pt0 (hk : k < 3) {j l : Nat} (hl : l < 3) (h : ¬ (j = i ∧ l = k)) : pt (tkS σ i k b 1) j l = pt (σ 1) j l := by
  show up _ _ _ (5 * j + 2 + l) = _; rw [up_n (by omega)]
theorem tk_w {q : Nat} : tkS σ i k b 2 q = if q / 8 = b then 0 else σ 2 q := by
  show cp (σ 2) z1 (8 * b) 8 q = _
  unfold cp
  by_cases e : q / 8 = b
  · rw [if_pos e, if_pos (by omega)]; rfl
  · rw [if_neg e, if_neg (by omega)]
theorem tk_sn {q : Nat} : sn (tkS σ i k b) q = if q / 8 = b then 0 else sn σ q := by
  unfold sn
  by_cases e : q / 8 = b
  · rw [if_pos e, if_neg]
    show ¬ up (σ 6) b 1 (q / 8) = 0
    rw [e, up_s]; decide
  · rw [if_neg e]
    show (if up (σ 6) b 1 (q / 8) = 0 then σ 5 q else 0) = _
    rw [up_n e]
theorem tk_yb {q : Nat} (hy : ∀ q, q / 8 = b → ¬ yb σ q) : yb (tkS σ i k b) q ↔ yb σ q := by
  show (q < 288 ∧ (up (σ 7) b 0 (q / 8)).testBit (q % 8) = true) ↔ _
  by_cases e : q / 8 = b
  · rw [e, up_s, Nat.zero_testBit]
    exact ⟨fun z => absurd z.2 (by decide), fun z => absurd z (hy q e)⟩
  · rw [up_n e]; exact Iff.rfl
theorem bm_inj {a b : Nat} (ha : isD a) (hb : isD b) (h : a / 12 * 16 + 4 + a % 12 = b / 12 * 16 + 4 + b % 12) : a = b := by
  have := ha.2; have := hb.2; omega
theorem tk_Inw (h : Inw n σ) (hi : i < 18) (hk : k < 3) (h0 : pt (σ 1) i k = 0) (hb : isD b) (hm : bm (σ 0) b = 0) (hkd : kd (σ 1) i ≠ 0) (hk2 : kd (σ 1) i = 2 → k = 0) :
    Inw n (tkS σ i k b) ∧ (Ins σ → Ins (tkS σ i k b)) ∧ owd (tkS σ i k b) = owd σ ∧ bz (yb (tkS σ i k b)) = bz (yb σ) := by
  obtain ⟨⟨a1, a2⟩, b1, ⟨c1, c2⟩, ⟨d1, d2⟩, ⟨f1, f2⟩, g5, g6, g7, g8, g10, g11, g12, g13, g14, g15, g16, g17, g18, g19, g20⟩ := h
  have b36 := hb.1
  have b0 : b ≠ 0 := by have := hb.2; intro z; rw [z] at this; omega
  have n1 : ∀ j l, j < 18 → l < 3 → pt (σ 1) j l ≠ b := fun j l hj hl z => by
    have := (g6 j l hj hl (by rw [z]; exact b0)).1
    rw [z, hm] at this; omega
  have n4 : ∀ j l, j < 18 → l < 3 → pt (σ 4) j l ≠ b := fun j l hj hl z => by
    have := (g8 j l hj hl (by rw [z]; exact b0)).1
    rw [z, hm] at this; omega
  have n8 : σ 8 b = 0 := by
    refine Classical.byContradiction fun z => ?_
    have := (g7 b b36 z).2; omega
  have nDB : ¬ DB σ b := by
    rintro ⟨-, z | ⟨j, hj, z1, z2⟩⟩
    · omega
    · exact n1 j 0 hj (by omega) z2
  have hy : ∀ q, q / 8 = b → ¬ yb σ q := fun q e z => by
    obtain ⟨-, -, j, hj, -, z2⟩ := g17 q z
    rw [e] at z2; exact n1 j 0 hj (by omega) z2
  have hbm : ∀ b', isD b' → b' ≠ b → bm (tkS σ i k b 0) b' = bm (σ 0) b' := fun b' h' e => by
    show up _ _ _ _ = _
    rw [up_n (fun z => e (bm_inj h' hb z))]
  have hbm1 : ∀ b', isD b' → bm (σ 0) b' = 1 → bm (tkS σ i k b 0) b' = 1 := fun b' h' z => by
    rw [hbm b' h' (fun y => by rw [y] at z; omega)]; exact z
  have him : ∀ j, im (tkS σ i k b 0) j = im (σ 0) j := fun j => by
    show up _ _ _ _ = _
    have := hb.2
    rw [up_n (by omega)]
  have hDB : ∀ b', b' ≠ b → (DB (tkS σ i k b) b' ↔ DB σ b') := fun b' e => by
    refine and_congr_right (fun e0 => or_congr Iff.rfl ⟨fun ⟨j, x, y, z⟩ => ⟨j, x, ?_, ?_⟩, fun ⟨j, x, y, z⟩ => ⟨j, x, ?_, ?_⟩⟩)
    · rw [tk_kd hk] at y; exact y
    · by_cases w : j = i ∧ 0 = k
      · rw [w.1, w.2, tk_pt1] at z; exact absurd z.symm e
      · rw [tk_pt0 hk (by omega) w] at z; exact z
    · rw [tk_kd hk]; exact y
    · by_cases w : j = i ∧ 0 = k
      · rw [w.1, w.2, h0] at z
        exact absurd z.symm e0
      · rw [tk_pt0 hk (by omega) w]; exact z
  have hpt : ∀ j l, j < 18 → l < 3 → (pt (tkS σ i k b 1) j l = b ∧ j = i ∧ l = k) ∨ (pt (tkS σ i k b 1) j l = pt (σ 1) j l ∧ pt (σ 1) j l ≠ b) := fun j l hj hl => by
    by_cases w : j = i ∧ l = k
    · left; rw [w.1, w.2]; exact ⟨tk_pt1, rfl, rfl⟩
    · right; exact ⟨tk_pt0 hk hl w, n1 j l hj hl⟩
  have hw : ∀ q, q / 8 ≠ b → tkS σ i k b 2 q = σ 2 q := fun q e => by rw [tk_w, if_neg e]
  have hw0 : ∀ q, tkS σ i k b 2 q ≠ 0 → q / 8 ≠ b ∧ tkS σ i k b 2 q = σ 2 q := fun q z => by
    have e : q / 8 ≠ b := fun e => z (by rw [tk_w, if_pos e])
    exact ⟨e, hw q e⟩
  have hs0 : ∀ q, sn (tkS σ i k b) q ≠ 0 → q / 8 ≠ b ∧ sn (tkS σ i k b) q = sn σ q := fun q z => by
    have e : q / 8 ≠ b := fun e => z (by rw [tk_sn, if_pos e])
    exact ⟨e, by rw [tk_sn, if_neg e]⟩
  have hnM : ∀ j q, nmM (tkS σ i k b) j q → q / 8 ≠ b ∧ nmM σ j q := fun j q z => by
    obtain ⟨e, e'⟩ := hw0 q z.1
    exact ⟨e, by rw [← e']; exact z.1, by rw [← e']; exact z.2⟩
  have hnD : ∀ j q, nmD (tkS σ i k b) j q → q / 8 ≠ b ∧ nmD σ j q := fun j q z => by
    obtain ⟨e, e'⟩ := hs0 q z.1
    exact ⟨e, by rw [← e']; exact z.1, by rw [← e']; exact z.2⟩
  have hUn : ∀ j, Un (tkS σ i k b) j ≤ Un σ j := fun j => cn_mono (fun q _ ⟨x, y⟩ => by
    rcases y with y | y
    · obtain ⟨e, y'⟩ := hnM j q y
      exact ⟨(hDB _ e).mp x, Or.inl y'⟩
    · obtain ⟨e, y'⟩ := hnD j q y
      exact ⟨(hDB _ e).mp x, Or.inr y'⟩)
  refine ⟨⟨⟨?_, a2⟩, b1, ⟨?_, c2⟩, ⟨?_, d2⟩, ⟨?_, f2⟩, ?_, ?_, ?_, ?_, ?_, ?_, ?_, ?_, ?_, ?_, ?_, ?_, ?_, ?_, ?_⟩, ?_, ?_, bz_congr (fun q => tk_yb hy)⟩
  · intro j hj
    obtain ⟨x1, x2, x3, x4⟩ := a1 j hj
    rw [tk_kd hk, tk_lk hk]
    refine ⟨x1, fun l hl => ?_, fun z => ⟨(x3 z).1, fun l hl => ?_⟩, fun z => ?_⟩
    · rcases hpt j l hj hl with w | w
      · right; rw [w.1]; exact hb
      · rw [w.1]; exact x2 l hl
    · rw [tk_pt0 hk hl (fun w => hkd (by rw [← w.1]; exact z))]; exact (x3 z).2 l hl
    · rw [tk_pt0 hk (by omega) (fun w => by have := hk2 (by rw [← w.1]; exact z); omega), tk_pt0 hk (by omega) (fun w => by have := hk2 (by rw [← w.1]; exact z); omega)]
      exact x4 z
  · intro j j' l l' hj hj' hl hl' x y
    rcases hpt j l hj hl with w | w
    · rcases hpt j' l' hj' hl' with w' | w'
      · exact ⟨by rw [w.2.1, w'.2.1], by rw [w.2.2, w'.2.2]⟩
      · rw [w.1, w'.1] at y; exact absurd y.symm w'.2
    · rcases hpt j' l' hj' hl' with w' | w'
      · rw [w.1, w'.1] at y; exact absurd y w.2
      · rw [w.1] at x y; rw [w'.1] at y
        exact c1 j j' l l' hj hj' hl hl' x y
  · refine ⟨by rw [tk_kd hk]; exact d1.1, ?_⟩
    rw [tk_pt0 hk (by omega)]
    · exact d1.2
    · intro w; rw [← w.1, ← w.2, d1.2] at h0; omega
  · intro j hj; rw [tk_lk hk]; exact f1 j hj
  · refine ⟨fun m hm => ⟨?_, (g5.1 m hm).2⟩, fun b' hb' => ⟨?_, ?_, (g5.2.1 b' hb').2.2⟩, ⟨g5.2.2.1.1, fun b' hb' z => by show up (σ 6) b 1 b' = 0; rw [up_n (fun e => by have := hb.2; rw [← e] at this; omega)]; exact g5.2.2.1.2 b' hb' z⟩, fun q hq => ⟨?_, (g5.2.2.2 q hq).2⟩⟩
    · show up _ _ _ m ≤ 1
      by_cases e : m = b / 12 * 16 + 4 + b % 12
      · rw [e, up_s]; omega
      · rw [up_n e]; exact (g5.1 m hm).1
    · show up _ _ _ b' ≤ 1
      by_cases e : b' = b
      · rw [e, up_s]; omega
      · rw [up_n e]; exact (g5.2.1 b' hb').1
    · show up _ _ _ b' < 256
      by_cases e : b' = b
      · rw [e, up_s]; omega
      · rw [up_n e]; exact (g5.2.1 b' hb').2.1
    · rw [tk_w]
      split
      · omega
      · exact (g5.2.2.2 q hq).1
  · intro j l hj hl z
    rcases hpt j l hj hl with w | w
    · rw [w.1]
      exact ⟨up_s, n8⟩
    · rw [w.1] at z ⊢
      have := g6 j l hj hl z
      exact ⟨hbm1 _ (((a1 j hj).2.1 l hl).resolve_left z) this.1, this.2⟩
  · intro b' hb' z
    have := g7 b' hb' z
    exact ⟨this.1, hbm1 _ this.1 this.2⟩
  · intro j l hj hl z
    have z' : pt (σ 4) j l ≠ 0 := z
    obtain ⟨x1, x2, x3, x4⟩ := g8 j l hj hl z'
    refine ⟨hbm1 _ (((a2 j hj).2.1 l hl).resolve_left z') x1, x2, ?_, ?_⟩
    · show up (σ 6) b 1 (pt (σ 4) j l) = 0
      rw [up_n (n4 j l hj hl)]; exact x3
    · rcases x4 with x4 | x4
      · left
        rw [tk_pt0 hk hl]
        · exact x4
        · intro w; rw [w.1, w.2, h0, ← w.1, ← w.2] at x4; exact z' x4.symm
      · right; exact ⟨x4.1, fun y => by rw [tk_kd hk]; exact x4.2 y⟩
  · intro j hj x y
    rw [tk_kd hk] at y ⊢; exact g10 j hj x y
  · intro q hq hD z
    obtain ⟨e, e'⟩ := hw0 q z
    rw [e'] at z ⊢
    obtain ⟨u1, u2, u3, u4, u5⟩ := g11 q hq ((hDB _ e).mp hD) z
    rw [tk_kd hk, him]
    refine ⟨u1, u2, u3, fun y => ?_, fun y => u5 (fun x => y ((tk_yb hy).mpr x))⟩
    rcases hpt (σ 2 q % 32) 0 u1.2.2.2 (by omega) with w | w
    · rw [w.1]; exact b0
    · rw [w.1]; exact u4 y
  · intro q hq hD z
    obtain ⟨e, e'⟩ := hs0 q z
    rw [e'] at z ⊢
    rw [tk_kd hk, him]
    exact g12 q hq ((hDB _ e).mp hD) z
  · intro q hq hD z y
    obtain ⟨e, e'⟩ := hw0 q z
    obtain ⟨-, e''⟩ := hs0 q y
    rw [e'] at z ⊢
    rw [e''] at y ⊢
    exact g13 q hq ((hDB _ e).mp hD) z y
  · intro q hq z
    rw [tk_w]
    split
    · rfl
    · exact g14 q hq z
  · intro j x y z
    rw [tk_kd hk] at z
    rw [tk_lk hk]
    exact Nat.le_trans (hUn j) (g15 j x y z)
  · intro j x y z
    refine Nat.le_trans (cn_mono (fun q hq ⟨u, v⟩ => ?_)) (g16 j x y z)
    rcases v with v | ⟨v, v'⟩
    · obtain ⟨e, e'⟩ := hnD j q v
      exact ⟨(hDB _ e).mp u, Or.inl e'⟩
    · obtain ⟨e, e'⟩ := hnM j q v
      exact ⟨(hDB _ e).mp u, Or.inr ⟨e', fun w => v' ((tk_yb hy).mpr w)⟩⟩
  · intro q z
    have z' := (tk_yb hy).mp z
    have e : q / 8 ≠ b := fun e => hy q e z'
    obtain ⟨u1, u2, j, hj, u3, u4⟩ := g17 q z'
    refine ⟨⟨by rw [hw q e]; exact u1.1, by rw [tk_sn, if_neg e]; exact u1.2⟩, u2, j, hj, by rw [tk_kd hk]; exact u3, ?_⟩
    rw [tk_pt0 hk (by omega)]
    · exact u4
    · intro w; rw [w.1, w.2, h0] at u4; exact u2 u4.symm
  · intro j hj z; rw [tk_kd hk, him]; exact g18 j hj z
  · intro j hj y z; rw [tk_kd hk] at y; exact g19 j hj y z
  · intro j x y z w u v
    rw [tk_kd hk] at z
    rw [tk_lk hk]
    obtain ⟨c, hc, hv⟩ := v
    obtain ⟨e, e'⟩ := hw0 _ hv
    rcases hpt j 0 y (by omega) with s | s
    · rw [s.1] at e; exact absurd (show (8 * b + c) / 8 = b by omega) e
    · rw [s.1] at w e' hv
      rw [e'] at hv
      refine Nat.lt_of_le_of_lt (hUn j) (g20 j x y z w (fun q hq hD t => ?_) ⟨c, hc, hv⟩)
      have e9 : q / 8 ≠ b := fun r => nDB (by rw [← r]; exact hD)
      exact u q hq ((hDB _ e9).mpr hD) ⟨by rw [hw q e9]; exact t.1, by rw [hw q e9]; exact t.2⟩
  · intro hI
    exact ⟨fun j x y z => by rw [tk_kd hk] at z; rw [tk_lk hk]; exact hI.1 j x y z, hI.2.1, hI.2.2.1, hI.2.2.2⟩
  · funext j
    unfold owd
    by_cases hj : j < 18
    · rw [if_pos hj, if_pos hj]
      refine cn_congr (fun q _ => ⟨fun ⟨x, y, z⟩ => ?_, fun ⟨x, y, z⟩ => ?_⟩)
      · obtain ⟨e, e'⟩ := hnD j q z
        exact ⟨(hDB _ e).mp x, by rw [← hw q e]; exact y, e'⟩
      · have e : q / 8 ≠ b := fun r => nDB (by rw [← r]; exact x)
        exact ⟨(hDB _ e).mpr x, by rw [hw q e]; exact y, by show sn _ _ ≠ 0; rw [tk_sn, if_neg e]; exact z.1, by rw [tk_sn, if_neg e]; exact z.2⟩
    · rw [if_neg hj, if_neg hj]
end TK
