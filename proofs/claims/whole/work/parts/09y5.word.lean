-- a word written into a file's block
section WD
variable {n F : Nat} {σ : St} {i k c v : Nat}
theorem wd_Inv (h : Inw n σ) (hi : i < 18) (hk : k < 3) (h0 : pt (σ 1) i k ≠ 0) (h1 : kd (σ 1) i = 1) (hc : c < 8) (hv : v < 2 ^ 32) :
    Inw n (wdS σ (8 * pt (σ 1) i k + c) v) ∧ owd (wdS σ (8 * pt (σ 1) i k + c) v) = owd σ := by
  obtain ⟨⟨a1, a2⟩, b1, ⟨c1, c2⟩, ⟨d1, d2⟩, ⟨f1, f2⟩, g5, g6, g7, g8, g10, g11, g12, g13, g14, g15, g16, g17, g18, g19, g20⟩ := h
  have nb : ∀ j, j < 18 → kd (σ 1) j = 2 → pt (σ 1) j 0 ≠ pt (σ 1) i k := fun j hj z e => by
    have := (c1 i j k 0 hi hj hk (by omega) h0 e.symm).1
    rw [← this] at z; omega
  have n8 := (g6 i k hi hk h0).2
  have nDB : ¬ DB σ (pt (σ 1) i k) := by
    rintro ⟨-, z | ⟨j, hj, z1, z2⟩⟩
    · omega
    · exact nb j hj z1 z2
  have hw : ∀ q, q / 8 ≠ pt (σ 1) i k → wdS σ (8 * pt (σ 1) i k + c) v 2 q = σ 2 q := fun q e => by
    show up _ _ _ q = _
    rw [up_n (by omega)]
  have hwD : ∀ q, DB σ (q / 8) → wdS σ (8 * pt (σ 1) i k + c) v 2 q = σ 2 q := fun q e => hw q (fun z => nDB (by rw [← z]; exact e))
  have hnM : ∀ j q, DB σ (q / 8) → (nmM (wdS σ (8 * pt (σ 1) i k + c) v) j q ↔ nmM σ j q) := fun j q e => by
    show (_ ≠ 0 ∧ _ % 32 = j) ↔ _
    rw [hwD q e]; exact Iff.rfl
  have hUn : ∀ j, Un (wdS σ (8 * pt (σ 1) i k + c) v) j = Un σ j := fun j => cn_congr (fun q _ => ⟨fun ⟨x, y⟩ => ⟨x, y.imp_left (hnM j q x).mp⟩, fun ⟨x, y⟩ => ⟨x, y.imp_left (hnM j q x).mpr⟩⟩)
  have hUd : ∀ j, Ud (wdS σ (8 * pt (σ 1) i k + c) v) j = Ud σ j := fun j => cn_congr (fun q _ => ⟨fun ⟨x, y⟩ => ⟨x, y.imp_right (fun z => ⟨(hnM j q x).mp z.1, z.2⟩)⟩, fun ⟨x, y⟩ => ⟨x, y.imp_right (fun z => ⟨(hnM j q x).mpr z.1, z.2⟩)⟩⟩)
  refine ⟨⟨⟨a1, a2⟩, b1, ⟨c1, c2⟩, ⟨d1, d2⟩, ⟨f1, f2⟩, ?_, g6, g7, g8, g10, ?_, g12, ?_, ?_, ?_, ?_, ?_, g18, g19, ?_⟩, ?_⟩
  · refine ⟨g5.1, g5.2.1, g5.2.2.1, fun q hq => ⟨?_, (g5.2.2.2 q hq).2⟩⟩
    show up _ _ _ q < _
    by_cases e : q = 8 * pt (σ 1) i k + c
    · rw [e, up_s]; exact hv
    · rw [up_n e]; exact (g5.2.2.2 q hq).1
  · intro q hq hD z
    rw [hwD q hD] at z ⊢
    exact g11 q hq hD z
  · intro q hq hD z y
    rw [hwD q hD] at z ⊢
    exact g13 q hq hD z y
  · intro q hq z
    have z' : σ 8 (q / 8) = 2 := z
    rw [hw q (fun e => by rw [e] at z'; omega)]
    exact g14 q hq z
  · intro j x y z; rw [hUn]; exact g15 j x y z
  · intro j x y z; rw [hUd]; exact g16 j x y z
  · intro q z
    obtain ⟨u1, u2, j, hj, u3, u4⟩ := g17 q z
    exact ⟨by rw [hw q (by rw [← u4]; exact nb j hj u3)]; exact u1, u2, j, hj, u3, u4⟩
  · intro j x y z w u v'
    rw [hUn]
    obtain ⟨c', hc', hv'⟩ := v'
    rw [hw] at hv'
    · exact g20 j x y z w (fun q hq hD t => u q hq hD ((hnM j q hD).mpr t)) ⟨c', hc', hv'⟩
    · show (8 * pt (σ 1) j 0 + c') / 8 ≠ _
      rw [show (8 * pt (σ 1) j 0 + c') / 8 = pt (σ 1) j 0 by omega]
      exact nb j y z
  · funext j
    unfold owd
    by_cases hj : j < 18
    · rw [if_pos hj, if_pos hj]
      exact cn_congr (fun q _ => ⟨fun ⟨x, y, z⟩ => ⟨x, by rw [← hwD q x]; exact y, z⟩, fun ⟨x, y, z⟩ => ⟨x, by rw [hwD q x]; exact y, z⟩⟩)
    · rw [if_neg hj, if_neg hj]
theorem nI_all (x : Int32) : ∃ v, v < 2 ^ 32 ∧ x = nI v := by
  refine ⟨x.toBitVec.toNat, x.toBitVec.isLt, ?_⟩
  show x = Int32.ofNat _
  apply Int32.toBitVec_inj.mp
  rw [Int32.toBitVec_ofNat', BitVec.ofNat_toNat, BitVec.setWidth_eq]
end WD
