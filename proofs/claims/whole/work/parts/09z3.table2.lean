-- write-back of a table: class and reference
section TV
variable {n F : Nat} {σ : St} {g : Nat}
theorem yS_8 {b : Nat} : yS σ g b 8 = yS σ g (b + 1) 0 := by
  funext a
  unfold yS
  by_cases e : a < b
  · rw [if_pos e, if_pos (by omega)]
  · rw [if_neg e]
    by_cases e' : a = b
    · rw [if_pos e', if_pos (by omega)]
    · rw [if_neg e', if_neg (by omega)]
      split
      · rfl
      · rfl
theorem yS_b {b c : Nat} : yS σ g b c b = ycl (σ 7 b) (yg σ g b) c := by
  unfold yS; rw [if_neg (by omega), if_pos rfl]
theorem yS_t {b c : Nat} (h : yg σ g b c) : up (yS σ g b c) b (cb (ycl (σ 7 b) (yg σ g b) c) c) = yS σ g b (c + 1) := by
  funext a
  by_cases e : a = b
  · rw [e, up_s, yS_b]
    show _ = pif (yg σ g b c) _ _
    rw [pif_t h]
  · rw [up_n e]; unfold yS
    split
    · rfl
    · rfl
theorem yS_f {b c : Nat} (h : ¬ yg σ g b c ∨ ¬ (ycl (σ 7 b) (yg σ g b) c).testBit c = true) : yS σ g b (c + 1) = yS σ g b c := by
  funext a
  by_cases e : a = b
  · rw [e, yS_b, yS_b]
    show pif (yg σ g b c) _ _ = _
    by_cases p : yg σ g b c
    · rw [pif_t p]; unfold cb; rw [if_neg (h.resolve_left (fun z => z p))]
    · rw [pif_f p]
  · unfold yS
    split
    · rfl
    · rfl
theorem ey_22 {k2 : Int32 → Int32 → (Nat → Int32) → Option (Nat → Int32)} {b : Nat} (h : Inw n σ) (hg : g < 3) (hb : b < 36) : ∀ (r c m : Nat), c + r = 8 → r < m → s_V_endYouth_22 F (zz (σ 2)) (zz z1) k2 m (nI g) (nI b) (nI c) (zz (yS σ g b c)) = k2 (nI g) (nI (b + 1)) (zz (yS σ g (b + 1) 0)) := by
  have h5 := Inw_V5 h
  intro r
  induction r with
  | zero =>
    intro c m hc hm
    obtain ⟨m, rfl⟩ : ∃ q, m = q + 1 := ⟨m - 1, by omega⟩
    unfold s_V_endYouth_22
    rw [if_pos (nI_le (by omega) (by omega)), nI_add, show c = 8 by omega, yS_8]
  | succ r ih =>
    intro c m hc hm
    obtain ⟨m, rfl⟩ : ∃ q, m = q + 1 := ⟨m - 1, by omega⟩
    have this := ih (c + 1) m (by omega) (by omega)
    have hy := ycl_ok (P := yg σ g b) (h5.2.1 b hb).2.1 c (by omega)
    unfold s_V_endYouth_22
    rw [if_neg (nI_ge (by omega) (by omega)), bd_e (cf_word' hb (by omega) (z1_le _ hb)), gr_e b rfl hb (by decide)]
    show bd (s_V_has (nI (yS σ g b c b)) (nI c)) _ = _
    rw [yS_b, bd_e (cf_has (by omega)), bt_nI _ hy.1 c (by omega), show sdw (σ 2) z1 (8 * b + c) = σ 2 (8 * b + c) from if_pos rfl]
    by_cases t : (ycl (σ 7 b) (yg σ g b) c).testBit c = true
    · rw [if_pos t, if_neg (show ¬ (nI 1 : Int32) = 0 by decide)]
      have t0 := ((hy.2 c (by omega)).mp t).1
      have hyb : yb σ (8 * b + c) := ⟨by omega, by rw [show (8 * b + c) / 8 = b by omega, show (8 * b + c) % 8 = c by omega]; exact t0⟩
      obtain ⟨⟨w1, -⟩, w2, i, i1, i2, i3⟩ := Inw_V17 h _ hyb
      obtain ⟨ok1, -⟩ := Inw_V11 h _ hyb.1 ⟨w2, Or.inr ⟨i, i1, i2, i3⟩⟩ w1
      have o2 := ok1.2.1
      rw [pk_rem (by omega) (by decide) (by decide), pk_div (by omega) (by decide) (by decide)]
      by_cases p : yg σ g b c
      · have p' : σ 2 (8 * b + c) % 32 / 6 = g := p
        rw [if_pos (by rw [p']), gr_e b rfl hb (by decide), ga_e b rfl hb (by decide)]
        show s_V_endYouth_22 F _ _ k2 m (nI g) (nI b) (nI c + nI 1) (upd (zz (yS σ g b c)) _ (nI (yS σ g b c b) &&& ((nI 1 <<< (nI c &&& 31)) ^^^ (-1)))) = _
        rw [yS_b, (cb_ok _ hy.1 c (by omega)).1, nI_clamp (by omega), zz_up, yS_t p, nI_add]
        exact this
      · rw [if_neg (fun z => p ((nI_eq (by omega) (by omega)).mp z)), nI_add]
        rw [yS_f (Or.inl p)] at this
        exact this
    · rw [if_neg t, if_pos nI_0, nI_add]
      rw [yS_f (Or.inr t)] at this
      exact this
theorem ey_2 (h : Inw n σ) (hg : g < 3) (hF : 8 < F) : ∀ (r b m : Nat), b + r = 36 → r < m → s_V_endYouth_2 F (zz (σ 2)) (zz z1) m (nI g) (nI b) (zz (yS σ g b 0)) = some (zz (yS σ g 36 0)) := by
  have h5 := Inw_V5 h
  intro r
  induction r with
  | zero =>
    intro b m hb hm
    obtain ⟨m, rfl⟩ : ∃ q, m = q + 1 := ⟨m - 1, by omega⟩
    unfold s_V_endYouth_2
    rw [if_pos (nI_le (by omega) (by omega)), show b = 36 by omega]
  | succ r ih =>
    intro b m hb hm
    obtain ⟨m, rfl⟩ : ∃ q, m = q + 1 := ⟨m - 1, by omega⟩
    have this := ih (b + 1) m (by omega) (by omega)
    have y7 := (h5.2.1 b (by omega)).2.1
    unfold s_V_endYouth_2
    rw [if_neg (nI_ge (by omega) (by omega)), gr_e b rfl (by omega) (by decide)]
    show (if nI (yS σ g b 0 b) = 0 then _ else _) = _
    rw [yS_b]
    show (if nI (σ 7 b) = 0 then _ else _) = _
    by_cases z : σ 7 b = 0
    · rw [if_pos (by rw [z]; rfl), nI_add]
      have e : yS σ g (b + 1) 0 = yS σ g b 0 := by
        rw [← yS_8]
        funext a
        unfold yS
        split
        · rfl
        · split
          · rename_i e1 e2
            rw [e2, z, ycl_z]; rfl
          · rfl
      rw [e] at this; exact this
    · rw [if_neg (fun w => z ((nI0 (by omega)).mp w)), ey_22 h hg (by omega) 8 0 F rfl hF]
      exact this
theorem yS_00 : yS σ g 0 0 = σ 7 := by
  funext a
  unfold yS
  rw [if_neg (by omega)]
  split
  · rfl
  · rfl
theorem cf_isNotOnDisk {v : Nat} (h5 : V5 σ) (hv : v = 0 ∨ isD v) : s_V_isNotOnDisk (zz (σ 3)) (zz (σ 6)) (nI v) = some (pif (v ≠ 0 ∧ (bm (σ 3) v = 0 ∨ σ 6 v ≠ 0)) (nI 1) (nI 0)) := by
  unfold s_V_isNotOnDisk s_V_isNotOnDisk_30 s_V_isNotOnDisk_26
  by_cases z : v = 0
  · rw [if_pos (by rw [z]; rfl), pif_f (fun w => w.1 z)]
  · have hD := hv.resolve_left z
    have h36 := hD.1
    have b6 := (h5.2.1 v h36).1
    have b3 : bm (σ 3) v ≤ 1 := (h5.1 (v / 12 * 16 + 4 + v % 12) (by have := hD.2; omega)).2
    rw [if_neg (fun w => z ((nI0 (by omega)).mp w)), bd_e (cf_blockMark hD)]
    by_cases w : bm (σ 3) v = 0
    · rw [if_pos (by rw [w]; rfl), pif_t ⟨z, Or.inl w⟩]
    · rw [if_neg (fun y => w ((nI0 (by omega)).mp y)), bd_e (cf_isBlank h36 b6)]
      by_cases u : σ 6 v = 0
      · rw [if_pos (by rw [u]; rfl), pif_f (fun y => y.2.elim w (fun t => t u))]
      · rw [if_neg (fun y => u ((nI0 (by omega)).mp y)), pif_t ⟨z, Or.inr u⟩]
theorem wt_58 {k10 : Int32 → Int32 → Int32 → Int32 → AR → AR → Option (Int32 × AR × AR)} {y : AR} {x3 : Int32} {j : Nat} (h : Inv n σ) (hg : g < 3) (hj : j < 6) : ∀ (r k m : Nat), k + r = 3 → r < m → s_V_writeTable_58 F (zz (σ 1)) (zz (σ 2)) (zz z1) (zz (σ 3)) (zz (σ 6)) k10 m (nI g) (nI (cn (fun t => heldw σ (30 * g + t)) (5 * j + 2 + k))) x3 (nI (6 * g + j)) (nI k) (zz (tb4 σ g (5 * j + 2 + k))) y = k10 (nI g) (nI (cn (fun t => heldw σ (30 * g + t)) (5 * (j + 1)))) x3 (nI (6 * g + (j + 1))) (zz (tb4 σ g (5 * (j + 1)))) y := by
  have hT := Inv_VT1 h
  have hT4 := Inv_VT4 h
  have h5 := Inw_V5 h.2.1
  intro r
  induction r with
  | zero =>
    intro k m hk hm
    obtain ⟨m, rfl⟩ : ∃ q, m = q + 1 := ⟨m - 1, by omega⟩
    unfold s_V_writeTable_58
    rw [if_pos (nI_le (by omega) (by omega)), nI_add, show 5 * j + 2 + k = 5 * (j + 1) by omega, show 6 * g + j + 1 = 6 * g + (j + 1) by omega]
  | succ r ih =>
    intro k m hk hm
    obtain ⟨m, rfl⟩ : ∃ q, m = q + 1 := ⟨m - 1, by omega⟩
    have this := ih (k + 1) m (by omega) (by omega)
    have hi : 6 * g + j < 18 := by omega
    have hk3 : k < 3 := by omega
    have ei : 5 * (6 * g + j) + 2 + k = 30 * g + (5 * j + 2 + k) := by omega
    have e4 : pt (tb4 σ g (5 * j + 2 + k)) (6 * g + j) k = pt (σ 4) (6 * g + j) k := by
      show tb4 σ g (5 * j + 2 + k) (5 * (6 * g + j) + 2 + k) = σ 4 (5 * (6 * g + j) + 2 + k)
      rw [ei]; exact tb_at
    have p1 := VT_p hT hi hk3
    have p4 := VT_p hT4 hi hk3
    have hset : ¬ heldw σ (30 * g + (5 * j + 2 + k)) → s_V_writeTable_108 F (zz (σ 1)) (zz (σ 2)) (zz z1) (zz (σ 3)) (zz (σ 6)) k10 (s_V_writeTable_58 F (zz (σ 1)) (zz (σ 2)) (zz z1) (zz (σ 3)) (zz (σ 6)) k10 m) (nI g) (nI (cn (fun t => heldw σ (30 * g + t)) (5 * j + 2 + k))) x3 (nI (6 * g + j)) (nI k) (nI (pt (σ 1) (6 * g + j) k)) (zz (tb4 σ g (5 * j + 2 + k))) y = k10 (nI g) (nI (cn (fun t => heldw σ (30 * g + t)) (5 * (j + 1)))) x3 (nI (6 * g + (j + 1))) (zz (tb4 σ g (5 * (j + 1)))) y := by
      intro hh
      unfold s_V_writeTable_108
      rw [bd_e (cf_setPointer hi hk3), ei, show pt (σ 1) (6 * g + j) k = σ 1 (30 * g + (5 * j + 2 + k)) by rw [← ei], tb_s hh, nI_add]
      rw [show 5 * j + 2 + (k + 1) = 5 * j + 2 + k + 1 by omega, cn_f (P := fun t => heldw σ (30 * g + t)) hh] at this
      exact this
    unfold s_V_writeTable_58
    rw [if_neg (nI_ge (by omega) (by omega)), bd_e (cf_pointer hi hk3), bd_e (cf_pointer hi hk3), e4]
    by_cases a : pt (σ 1) (6 * g + j) k = pt (σ 4) (6 * g + j) k
    · rw [if_pos (by rw [a])]
      exact hset (fun z => z.2.2.1 (by rw [← ei]; exact a))
    · rw [if_neg (fun z => a ((nI_eq (by omega) (by omega)).mp z)), bd_e (cf_isNotOnDisk h5 ((hT _ hi).2.2 k hk3))]
      by_cases c : pt (σ 1) (6 * g + j) k ≠ 0 ∧ (bm (σ 3) (pt (σ 1) (6 * g + j) k) = 0 ∨ σ 6 (pt (σ 1) (6 * g + j) k) ≠ 0)
      · have hh : heldw σ (30 * g + (5 * j + 2 + k)) := by
          rw [← ei]; exact ⟨by omega, c.1, a, c.2⟩
        rw [pif_t c, if_neg (show ¬ (nI 1 : Int32) = 0 by decide), nI_add, nI_add]
        rw [show 5 * j + 2 + (k + 1) = 5 * j + 2 + k + 1 by omega, cn_t (P := fun t => heldw σ (30 * g + t)) hh, tb_h hh] at this
        exact this
      · rw [pif_f c, if_pos nI_0]
        exact hset (fun z => c (by rw [← ei] at z; exact ⟨z.2.1, z.2.2.2⟩))
theorem wt_10 (h : Inv n σ) (hg : g < 3) (hF : 40 < F) : ∀ (r j m : Nat), j + r = 6 → r < m → s_V_writeTable_10 F (zz (σ 1)) (zz (σ 2)) (zz z1) (zz (σ 3)) (zz (σ 6)) m (nI g) (nI (cn (fun t => heldw σ (30 * g + t)) (5 * j))) (nI (6 * g)) (nI (6 * g + j)) (zz (tb4 σ g (5 * j))) (zz (σ 7)) = some (nI (cn (fun t => heldw σ (30 * g + t)) 30), zz (tb4 σ g 30), zz (yS σ g 36 0)) := by
  intro r
  induction r with
  | zero =>
    intro j m hj hm
    obtain ⟨m, rfl⟩ : ∃ q, m = q + 1 := ⟨m - 1, by omega⟩
    unfold s_V_writeTable_10 s_V_endYouth
    have e := ey_2 (F := F) h.2.1 hg (by omega) 36 0 F rfl (by omega)
    rw [yS_00] at e
    rw [nI_add, if_pos (nI_le (by omega) (by omega)), bd_e e, show j = 6 by omega]
  | succ r ih =>
    intro j m hj hm
    obtain ⟨m, rfl⟩ : ∃ q, m = q + 1 := ⟨m - 1, by omega⟩
    have this := ih (j + 1) m (by omega) (by omega)
    have hi : 6 * g + j < 18 := by omega
    have n0 : ¬ heldw σ (30 * g + 5 * j) := fun z => by have := z.1; omega
    have n1 : ¬ heldw σ (30 * g + (5 * j + 1)) := fun z => by have := z.1; omega
    unfold s_V_writeTable_10
    rw [nI_add, if_neg (nI_ge (by omega) (by omega)), bd_e (cf_kind hi), bd_e (cf_setKind hi), bd_e (cf_links hi), bd_e (cf_setLinks hi)]
    have e1 : up (up (tb4 σ g (5 * j)) (5 * (6 * g + j)) (kd (σ 1) (6 * g + j))) (5 * (6 * g + j) + 1) (lk (σ 1) (6 * g + j)) = tb4 σ g (5 * j + 2) := by
      rw [show 5 * (6 * g + j) + 1 = 30 * g + (5 * j + 1) by omega, show 5 * (6 * g + j) = 30 * g + 5 * j by omega]
      show up (up _ _ (σ 1 (5 * (6 * g + j)))) _ (σ 1 (5 * (6 * g + j) + 1)) = _
      rw [show 5 * (6 * g + j) + 1 = 30 * g + (5 * j + 1) by omega, show 5 * (6 * g + j) = 30 * g + 5 * j by omega, tb_s n0, tb_s n1]
    rw [e1]
    have w := wt_58 (F := F) (k10 := s_V_writeTable_10 F (zz (σ 1)) (zz (σ 2)) (zz z1) (zz (σ 3)) (zz (σ 6)) m) (y := zz (σ 7)) (x3 := nI (6 * g)) (j := j) h hg (by omega) 3 0 F rfl (by omega)
    have ec : cn (fun t => heldw σ (30 * g + t)) (5 * j + 2 + 0) = cn (fun t => heldw σ (30 * g + t)) (5 * j) := by
      show cn (fun t => heldw σ (30 * g + t)) (5 * j + 1 + 1) = _
      rw [cn_f (P := fun t => heldw σ (30 * g + t)) n1, cn_f (P := fun t => heldw σ (30 * g + t)) n0]
    rw [ec] at w
    exact w.trans this
theorem cf_writeTable (h : Inv n σ) (hg : g < 3) (hF : 40 < F) : s_V_writeTable F (zz (σ 1)) (zz (σ 2)) (zz z1) (zz (σ 3)) (zz (σ 6)) (nI g) (zz (σ 4)) (zz (σ 7)) = some (nI (cn (fun t => heldw σ (30 * g + t)) 30), zz (tb4 σ g 30), zz (yS σ g 36 0)) := by
  have e := wt_10 (F := F) h hg hF 6 0 F rfl (by omega)
  rw [Nat.mul_zero, tb_0] at e
  unfold s_V_writeTable
  rw [show nI g * nI 6 = nI (6 * g) by rw [pk_mul, Nat.mul_comm]]
  exact e
end TV
