-- write-back of a table: the reference
section TR
variable {n F : Nat} {σ : St} {g : Nat}
theorem ft_134 {dr rl od ct dsk : AR} {x2 : Int32} (h : Inw n σ) (hg : g < 3) : ∀ (r k m : Nat), k + r = 288 → r < m → s_R_flushTable_134 F (zz (σ 6)) m (nI (12 * g + 1)) x2 (nI k) (bz (fun q => yb σ q ∧ ¬ (q < k ∧ σ 2 q % 32 / 6 = g))) dr (zz (rM (σ 0) (σ 1) (σ 2))) dsk rl od ct = bd (s_R_settle F dsk (zz (σ 6)) dr (zz (rM (σ 0) (σ 1) (σ 2))) rl od ct) (fun ⟨a, b, c, d, e⟩ => some (x2, bz (yb (tbS σ g)), a, b, dsk, c, d, e)) := by
  have h5 := Inw_V5 h
  intro r
  induction r with
  | zero =>
    intro k m hk hm
    obtain ⟨m, rfl⟩ : ∃ q, m = q + 1 := ⟨m - 1, by omega⟩
    unfold s_R_flushTable_134
    rw [if_pos (nI_le (by omega) (by omega))]
    have e : bz (fun q => yb σ q ∧ ¬ (q < k ∧ σ 2 q % 32 / 6 = g)) = bz (yb (tbS σ g)) := bz_congr (fun q => by
      rw [tb_yb h5]
      exact ⟨fun ⟨a, b⟩ => ⟨a, fun z => b ⟨by have := a.1; omega, z⟩⟩, fun ⟨a, b⟩ => ⟨a, fun z => b z.2⟩⟩)
    rw [e]
  | succ r ih =>
    intro k m hk hm
    obtain ⟨m, rfl⟩ : ∃ q, m = q + 1 := ⟨m - 1, by omega⟩
    have this := ih (k + 1) m (by omega) (by omega)
    have ix : nI k / nI 8 * nI 30 + (nI k - nI k / nI 8 * nI 8) = nI (k / 8 * 30 + k % 8) := by
      rw [pk_rem (by omega) (by decide) (by decide), pk_div (by omega) (by decide) (by decide), pk_mul, nI_add]
    have nxt0 : (¬ yb σ k ∨ σ 2 k % 32 / 6 = g) → upd (bz (fun q => yb σ q ∧ ¬ (q < k ∧ σ 2 q % 32 / 6 = g))) k (nI 0) = bz (fun q => yb σ q ∧ ¬ (q < k + 1 ∧ σ 2 q % 32 / 6 = g)) := by
      intro hh
      rw [bz_0]
      refine bz_congr (fun q => ⟨fun ⟨⟨a, b⟩, c⟩ => ⟨a, fun z => b ⟨by omega, z.2⟩⟩, fun ⟨a, b⟩ => ⟨⟨a, fun z => b ⟨by omega, z.2⟩⟩, fun e => ?_⟩⟩)
      rw [e] at a b
      rcases hh with w | w
      · exact w a
      · exact b ⟨by omega, w⟩
    have nxt1 : yb σ k → ¬ σ 2 k % 32 / 6 = g → upd (bz (fun q => yb σ q ∧ ¬ (q < k ∧ σ 2 q % 32 / 6 = g))) k (nI 1) = bz (fun q => yb σ q ∧ ¬ (q < k + 1 ∧ σ 2 q % 32 / 6 = g)) := by
      intro hy hg'
      rw [bz_1]
      refine bz_congr (fun q => ⟨fun z => ?_, fun ⟨a, b⟩ => Or.inl ⟨a, fun z => b ⟨by omega, z.2⟩⟩⟩)
      rcases z with ⟨a, b⟩ | e
      · refine ⟨a, fun z => ?_⟩
        by_cases e : q = k
        · rw [e] at z; exact hg' z.2
        · exact b ⟨by omega, z.2⟩
      · rw [e]; exact ⟨hy, fun z => hg' z.2⟩
    unfold s_R_flushTable_134 s_R_flushTable_193 s_R_flushTable_194
    rw [if_neg (nI_ge (by omega) (by omega)), ix, gr_e _ rfl (by omega) (by decide), gr_e k rfl (by omega) (by decide), ga_e k rfl (by omega) (by decide), ga_e k rfl (by omega) (by decide), nar0, nar1, nI_clamp (by omega), nI_add]
    show (if pif (yb σ k ∧ ¬ (k < k ∧ σ 2 k % 32 / 6 = g)) (nI 1) (nI 0) = 0 then _ else _) = _
    by_cases hy : yb σ k
    · rw [if_neg (fun z => pif01.mp z ⟨hy, fun w => by omega⟩)]
      obtain ⟨⟨w1, -⟩, w2, i, i1, i2, i3⟩ := Inw_V17 h _ hy
      have hDB : DB σ (k / 8) := ⟨w2, Or.inr ⟨i, i1, i2, i3⟩⟩
      obtain ⟨ok1, -⟩ := Inw_V11 h _ hy.1 hDB w1
      have o2 := ok1.2.1
      have hD : isD (k / 8) := by
        rcases (h.1.1 i i1).2.1 0 (by omega) with z | z
        · rw [i3] at z; exact absurd z w2
        · rw [i3] at z; exact z
      have e0 : rM (σ 0) (σ 1) (σ 2) (k / 8 * 30 + k % 8) = σ 2 k := by
        rw [show k / 8 * 30 + k % 8 = 30 * (k / 8) + k % 8 by omega, rM_w hD (by omega), show 8 * (k / 8) + k % 8 = k by omega]
      rw [show zz (rM (σ 0) (σ 1) (σ 2)) (k / 8 * 30 + k % 8) = nI (σ 2 k) from congrArg nI e0, pk_rem (by omega) (by decide) (by decide), pk_div (by omega) (by decide) (by decide), pk_div (by omega) (by decide) (by decide), show (12 * g + 1) / 12 = g by omega]
      by_cases p : σ 2 k % 32 / 6 = g
      · rw [if_pos (by rw [p]), nxt0 (Or.inr p)]; exact this
      · rw [if_neg (fun z => p ((nI_eq (by omega) (by omega)).mp z)), nxt1 hy p]; exact this
    · rw [if_pos (pif01.mpr (fun z => hy z.1)), nxt0 (Or.inl hy)]; exact this
theorem ft_4 {y dr rl od ct : AR} (h : Inv n σ) (hg : g < 3) : ∀ (r k m : Nat), k + r = 30 → r < m → s_R_flushTable_4 F (zz (σ 6)) m (nI (12 * g + 1)) (nI (cn (fun t => heldw σ (30 * g + t)) k)) (nI k) y dr (zz (rM (σ 0) (σ 1) (σ 2))) (zz (rM (σ 3) (tb4 σ g k) (σ 5))) rl od ct = s_R_flushTable_134 F (zz (σ 6)) F (nI (12 * g + 1)) (nI (cn (fun t => heldw σ (30 * g + t)) 30)) (nI 0) y dr (zz (rM (σ 0) (σ 1) (σ 2))) (zz (rM (σ 3) (tb4 σ g 30) (σ 5))) rl od ct := by
  have hT := Inv_VT1 h
  have hT4 := Inv_VT4 h
  have h5 := Inw_V5 h.2.1
  intro r
  induction r with
  | zero =>
    intro k m hk hm
    obtain ⟨m, rfl⟩ : ∃ q, m = q + 1 := ⟨m - 1, by omega⟩
    unfold s_R_flushTable_4
    rw [if_pos (nI_le (by omega) (by omega)), show k = 30 by omega]
  | succ r ih =>
    intro k m hk hm
    obtain ⟨m, rfl⟩ : ∃ q, m = q + 1 := ⟨m - 1, by omega⟩
    have this := ih (k + 1) m (by omega) (by omega)
    have e1 : rM (σ 0) (σ 1) (σ 2) (30 * (12 * g + 1) + k) = σ 1 (30 * g + k) := by
      rw [rM_1 (by omega) (by omega)]; congr 1; omega
    have e4 : rM (σ 3) (tb4 σ g k) (σ 5) (30 * (12 * g + 1) + k) = σ 4 (30 * g + k) := by
      rw [rM_1 (by omega) (by omega), show (30 * (12 * g + 1) + k) / 30 / 12 * 30 + (30 * (12 * g + 1) + k) % 30 = 30 * g + k by omega, tb_at]
    have eu : ∀ v, upd (zz (rM (σ 3) (tb4 σ g k) (σ 5))) (30 * (12 * g + 1) + k) (nI v) = zz (rM (σ 3) (up (tb4 σ g k) (30 * g + k) v) (σ 5)) := fun v => by
      rw [zz_up, up_1 (by omega) (by omega), show (30 * (12 * g + 1) + k) / 30 / 12 * 30 + (30 * (12 * g + 1) + k) % 30 = 30 * g + k by omega]
    have h78 : ¬ heldw σ (30 * g + k) → s_R_flushTable_78 F (zz (σ 6)) (s_R_flushTable_4 F (zz (σ 6)) m) (nI (12 * g + 1)) (nI (cn (fun t => heldw σ (30 * g + t)) k)) (nI k) (nI (σ 1 (30 * g + k))) y dr (zz (rM (σ 0) (σ 1) (σ 2))) (zz (rM (σ 3) (tb4 σ g k) (σ 5))) rl od ct = s_R_flushTable_134 F (zz (σ 6)) F (nI (12 * g + 1)) (nI (cn (fun t => heldw σ (30 * g + t)) 30)) (nI 0) y dr (zz (rM (σ 0) (σ 1) (σ 2))) (zz (rM (σ 3) (tb4 σ g 30) (σ 5))) rl od ct := by
      intro hh
      unfold s_R_flushTable_78 s_R_flushTable_79 s_R_flushTable_93 s_R_flushTable_125
      rw [if_pos nI_0, if_pos nI_0, ix30, ga_e _ rfl (by omega) (by decide), nI_clamp (by omega), eu, tb_s hh, nI_add]
      rw [cn_f (P := fun t => heldw σ (30 * g + t)) hh] at this
      exact this
    have h74 : heldw σ (30 * g + k) → s_R_flushTable_74 F (zz (σ 6)) (s_R_flushTable_4 F (zz (σ 6)) m) (nI (12 * g + 1)) (nI (cn (fun t => heldw σ (30 * g + t)) k)) (nI k) (nI (σ 1 (30 * g + k))) y dr (zz (rM (σ 0) (σ 1) (σ 2))) (zz (rM (σ 3) (tb4 σ g k) (σ 5))) rl od ct = s_R_flushTable_134 F (zz (σ 6)) F (nI (12 * g + 1)) (nI (cn (fun t => heldw σ (30 * g + t)) 30)) (nI 0) y dr (zz (rM (σ 0) (σ 1) (σ 2))) (zz (rM (σ 3) (tb4 σ g 30) (σ 5))) rl od ct := by
      intro hh
      unfold s_R_flushTable_74 s_R_flushTable_79 s_R_flushTable_93 s_R_flushTable_125
      rw [if_neg (show ¬ (nI 1 : Int32) = 0 by decide), if_neg (show ¬ (nI 1 : Int32) = 0 by decide), ix30, gr_e _ rfl (by omega) (by decide), ga_e _ rfl (by omega) (by decide), nI_clamp (by omega)]
      rw [show zz (rM (σ 3) (tb4 σ g k) (σ 5)) (30 * (12 * g + 1) + k) = nI (σ 4 (30 * g + k)) from congrArg nI e4, eu, ← tb_at (σ := σ) (g := g) (k := k), up_id, nI_add, nI_add]
      rw [cn_t (P := fun t => heldw σ (30 * g + t)) hh, tb_h hh] at this
      exact this
    unfold s_R_flushTable_4
    rw [if_neg (nI_ge (by omega) (by omega)), ix30, gr_e _ rfl (by omega) (by decide)]
    rw [show zz (rM (σ 0) (σ 1) (σ 2)) (30 * (12 * g + 1) + k) = nI (σ 1 (30 * g + k)) from congrArg nI e1, pk_rem (a := k) (by omega) (by decide) (by decide)]
    by_cases a : k % 5 ≤ 1
    · rw [if_pos (nI_le a (by omega))]
      exact h78 (fun z => by have := z.1; omega)
    · rw [if_neg (nI_ge (by omega) (by omega))]
      have hi : 6 * g + k / 5 < 18 := by omega
      have hk3 : k % 5 - 2 < 3 := by omega
      have ei : 5 * (6 * g + k / 5) + 2 + (k % 5 - 2) = 30 * g + k := by omega
      have p1 := (hT _ hi).2.2 _ hk3
      have q1 := VT_p hT hi hk3
      have q4 := VT_p hT4 hi hk3
      have p1 : σ 1 (5 * (6 * g + k / 5) + 2 + (k % 5 - 2)) = 0 ∨ isD (σ 1 (5 * (6 * g + k / 5) + 2 + (k % 5 - 2))) := p1
      have q1 : σ 1 (5 * (6 * g + k / 5) + 2 + (k % 5 - 2)) < 36 := q1
      have q4 : σ 4 (5 * (6 * g + k / 5) + 2 + (k % 5 - 2)) < 36 := q4
      rw [ei] at p1 q1 q4
      by_cases b : σ 1 (30 * g + k) = 0
      · rw [if_pos (by rw [b]; rfl)]
        exact h78 (fun z => z.2.1 b)
      · rw [if_neg (fun z => b ((nI0 (by omega)).mp z)), gr_e _ rfl (by omega) (by decide)]
        rw [show zz (rM (σ 3) (tb4 σ g k) (σ 5)) (30 * (12 * g + 1) + k) = nI (σ 4 (30 * g + k)) from congrArg nI e4]
        by_cases c : σ 1 (30 * g + k) = σ 4 (30 * g + k)
        · rw [if_pos (by rw [c])]
          exact h78 (fun z => z.2.2.1 c)
        · have hD := p1.resolve_left b
          have b6 := (h5.2.1 _ q1).1
          have b3 : bm (σ 3) (σ 1 (30 * g + k)) ≤ 1 := (h5.1 (σ 1 (30 * g + k) / 12 * 16 + 4 + σ 1 (30 * g + k) % 12) (by have := hD.2; omega)).2
          rw [if_neg (fun z => c ((nI_eq (by omega) (by omega)).mp z)), gr_e _ rfl q1 (by decide), bd_e (cf_markOfBlock q1), rd_bm hD]
          show (if nI (σ 6 (σ 1 (30 * g + k))) = 0 then _ else _) = _
          by_cases d : σ 6 (σ 1 (30 * g + k)) = 0
          · rw [if_pos (by rw [d]; rfl)]
            by_cases e : bm (σ 3) (σ 1 (30 * g + k)) = 0
            · rw [if_pos (by rw [e]; rfl)]
              exact h74 ⟨by omega, b, c, Or.inl e⟩
            · rw [if_neg (fun z => e ((nI0 (by omega)).mp z))]
              exact h78 (fun z => z.2.2.2.elim e (fun w => w d))
          · rw [if_neg (fun z => d ((nI0 (by omega)).mp z))]
            exact h74 ⟨by omega, b, c, Or.inr d⟩
theorem cf_flushTable {C : Nat → Nat} (h : Inv n σ) (hg : g < 3) (hF : 300 < F) : ∃ C', s_R_flushTable F (zz (σ 6)) (nI (12 * g + 1)) (bz (yb σ)) (zz (σ 8)) (zz (rM (σ 0) (σ 1) (σ 2))) (zz (rM (σ 3) (σ 4) (σ 5))) (bz (fun i => σ 9 i = 2)) (zz (owd σ)) (zz C) = some (nI (cn (fun t => heldw σ (30 * g + t)) 30), bz (yb (tbS σ g)), zz (GB (tbS σ g) 8), zz (rM (GB (tbS σ g) 0) (GB (tbS σ g) 1) (σ 2)), zz (rM (σ 3) (tb4 σ g 30) (σ 5)), bz (fun i => GB (tbS σ g) 9 i = 2), zz (owd (GB (tbS σ g))), zz C') := by
  obtain ⟨w1, w2, w3, w4⟩ := tb_Inw h hg
  obtain ⟨C', g2⟩ := cf_settle0 (C := C) hF (show n ≤ 600 by have := h.1; omega) w1 w2 w3
  refine ⟨C', ?_⟩
  unfold s_R_flushTable
  have e := ft_4 (F := F) (y := bz (yb σ)) (dr := zz (σ 8)) (rl := bz (fun i => σ 9 i = 2)) (od := zz (owd σ)) (ct := zz C) h hg 30 0 F rfl (by omega)
  rw [tb_0] at e
  have e0 : bz (yb σ) = bz (fun q => yb σ q ∧ ¬ (q < 0 ∧ σ 2 q % 32 / 6 = g)) := bz_congr (fun q => ⟨fun z => ⟨z, fun w => by have := w.1; omega⟩, fun z => z.1⟩)
  refine e.trans ?_
  rw [e0, ft_134 h.2.1 hg 288 0 F rfl (by omega)]
  have g2' : s_R_settle F (zz (rM (σ 3) (tb4 σ g 30) (σ 5))) (zz (σ 6)) (zz (σ 8)) (zz (rM (σ 0) (σ 1) (σ 2))) (bz (fun i => σ 9 i = 2)) (zz (owd σ)) (zz C) = some (zz (GB (tbS σ g) 8), zz (rM (GB (tbS σ g) 0) (GB (tbS σ g) 1) (σ 2)), bz (fun i => GB (tbS σ g) 9 i = 2), zz (owd (GB (tbS σ g))), zz C') := g2
  rw [bd_e g2']
end TR
