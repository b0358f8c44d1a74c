-- making an entry
def sb (y c : Nat) : Nat := if y.testBit c then y else y + 2 ^ c
theorem sb_ok : ∀ y, y < 256 → ∀ c, c < 8 → (nI y ||| (nI 1 <<< (nI c &&& 31)) = nI (sb y c) ∧ sb y c < 256 ∧ ∀ j, j < 8 → ((sb y c).testBit j = true ↔ y.testBit j = true ∨ j = c)) := by decide +kernel
def enS (σ : St) (q e : Nat) : St := fun c => if c = 1 then up (σ 1) (5 * (e % 32) + 1) (lk (σ 1) (e % 32) + 1) else if c = 2 then up (σ 2) q e else if c = 7 then up (σ 7) (q / 8) (sb (σ 7 (q / 8)) (q % 8)) else σ c
theorem tree_nm {n : Nat} {σ : St} (h : Inw n σ) {d : Nat} (ht : Tr (Ed (σ 1) (σ 2) z1) 0 d) (h0 : d ≠ 0) : ∃ p, p < 288 ∧ DB σ (p / 8) ∧ nmM σ d p := by
  have hV := VEm h
  rcases Tr_last ht with e | ⟨a, ta, c, hc, e1, e2⟩
  · exact absurd e h0
  · have ha := Tr_lt hV (show (0 : Nat) < 18 by omega) ta
    have hh : kd (σ 1) a = 2 ∧ pt (σ 1) a 0 ≠ 0 := by
      refine Classical.byContradiction fun z => e1 ?_
      unfold en; rw [if_neg (fun y => z ⟨y.1, y.2.1⟩)]
    rw [en_m hh.1 hh.2] at e1 e2
    have hp : pt (σ 1) a 0 < 36 := by
      rcases (h.1.1 a ha).2.1 0 (by omega) with e | e
      · omega
      · exact e.1
    exact ⟨8 * pt (σ 1) a 0 + c, by omega, by rw [show (8 * pt (σ 1) a 0 + c) / 8 = pt (σ 1) a 0 by omega]; exact DBm ha hh.1 hh.2, e1, e2⟩
section EN
variable {n F : Nat} {σ : St} {q e : Nat}
theorem en_kd {j : Nat} : kd (enS σ q e 1) j = kd (σ 1) j := by
  show up _ _ _ (5 * j) = _; rw [up_n (by omega)]
theorem en_pt {j k : Nat} (hk : k < 3) : pt (enS σ q e 1) j k = pt (σ 1) j k := by
  show up _ _ _ (5 * j + 2 + k) = _; rw [up_n (by omega)]
theorem en_lk {j : Nat} : lk (enS σ q e 1) j = if j = e % 32 then lk (σ 1) j + 1 else lk (σ 1) j := by
  show up _ _ _ (5 * j + 1) = _
  by_cases e : j = e % 32
  · rw [if_pos e, ← e, up_s]
  · rw [if_neg e, up_n (by omega)]
theorem en_w {p : Nat} : enS σ q e 2 p = if p = q then e else σ 2 p := rfl
theorem en_yb (h5 : V5 σ) {p : Nat} (hq : q < 288) : yb (enS σ q e) p ↔ yb σ p ∨ p = q := by
  show (p < 288 ∧ (up (σ 7) (q / 8) (sb (σ 7 (q / 8)) (q % 8)) (p / 8)).testBit (p % 8) = true) ↔ (p < 288 ∧ (σ 7 (p / 8)).testBit (p % 8) = true) ∨ p = q
  by_cases e : p / 8 = q / 8
  · have hb := ((sb_ok (σ 7 (q / 8)) (h5.2.1 _ (by omega)).2.1 (q % 8) (by omega)).2.2 (p % 8) (by omega))
    rw [e, up_s, hb]
    exact ⟨fun ⟨a, b⟩ => b.elim (fun z => Or.inl ⟨a, z⟩) (fun z => Or.inr (by omega)), fun z => z.elim (fun ⟨a, b⟩ => ⟨a, Or.inl b⟩) (fun y => ⟨by omega, Or.inr (by rw [y])⟩)⟩
  · rw [up_n e]
    exact ⟨fun z => Or.inl z, fun z => z.elim id (fun y => absurd (by rw [y]) e)⟩
theorem en_DB {b : Nat} : DB (enS σ q e) b ↔ DB σ b := by
  refine and_congr_right' (or_congr Iff.rfl ⟨fun ⟨j, a, c, d⟩ => ⟨j, a, ?_, ?_⟩, fun ⟨j, a, c, d⟩ => ⟨j, a, ?_, ?_⟩⟩)
  · rw [en_kd] at c; exact c
  · rw [en_pt (by omega)] at d; exact d
  · rw [en_kd]; exact c
  · rw [en_pt (by omega)]; exact d
theorem en_nm (h0 : σ 2 q = 0) (he : e ≠ 0) {j p : Nat} : nmM (enS σ q e) j p ↔ nmM σ j p ∨ (p = q ∧ e % 32 = j) := by
  show (enS σ q e 2 p ≠ 0 ∧ enS σ q e 2 p % 32 = j) ↔ (σ 2 p ≠ 0 ∧ σ 2 p % 32 = j) ∨ _
  rw [en_w]
  by_cases e : p = q
  · rw [if_pos e, e, h0]; exact ⟨fun z => Or.inr ⟨rfl, z.2⟩, fun z => z.elim (fun y => absurd rfl y.1) (fun y => ⟨he, y.2⟩)⟩
  · rw [if_neg e]; exact ⟨fun z => Or.inl z, fun z => z.elim id (fun y => absurd y.1 e)⟩
theorem en_Inw {d : Nat} (h : Inw n σ) (hq : q < 288) (hd : d < 18) (h2 : kd (σ 1) d = 2) (hp : pt (σ 1) d 0 = q / 8) (hp0 : q / 8 ≠ 0) (h0 : σ 2 q = 0) (hs : sn σ q = 0) (ok1 : ok e) (ek : kd (σ 1) (e % 32) ≠ 0) (ei : im (σ 0) (e % 32) = 1) (e2 : kd (σ 1) (e % 32) = 2 → pt (σ 1) (e % 32) 0 ≠ 0) (ht : d ≠ 0 → ∃ p, p < 288 ∧ DB σ (p / 8) ∧ nmM σ d p) : Inw (n + 1) (enS σ q e) := by
  have he : e ≠ 0 := by have := ok1.1; omega
  have h5 := Inw_V5 h
  have hD : DB σ (q / 8) := ⟨hp0, Or.inr ⟨d, hd, h2, hp⟩⟩
  have hw : ∀ p, p ≠ q → enS σ q e 2 p = σ 2 p := fun p hp => by rw [en_w, if_neg hp]
  have hsn : ∀ p, sn (enS σ q e) p = sn σ p := fun p => rfl
  have hUn1 : ∀ j, j = e % 32 → Un (enS σ q e) j = Un σ j + 1 := fun j hj => by
    refine cn_one (k := q) hq ⟨en_DB.mpr hD, Or.inl ((en_nm h0 he).mpr (Or.inr ⟨rfl, hj.symm⟩))⟩ (fun z => z.2.elim (fun y => y.1 h0) (fun y => y.1 hs)) (fun p _ hp => ?_)
    exact and_congr en_DB (or_congr ⟨fun z => ((en_nm h0 he).mp z).elim id (fun y => absurd y.1 hp), fun z => (en_nm h0 he).mpr (Or.inl z)⟩ Iff.rfl)
  have hUn0 : ∀ j, j ≠ e % 32 → Un (enS σ q e) j = Un σ j := fun j hj => 
    cn_congr (fun p _ => and_congr en_DB (or_congr ⟨fun z => ((en_nm h0 he).mp z).elim id (fun y => absurd y.2.symm hj), fun z => (en_nm h0 he).mpr (Or.inl z)⟩ Iff.rfl))
  obtain ⟨⟨a1, a2⟩, b, ⟨c1, c2⟩, ⟨d1, d2⟩, ⟨f1, f2⟩, g5, g6, g7, g8, g10, g11, g12, g13, g14, g15, g16, g17, g18, g19, g20⟩ := h
  refine ⟨⟨?_, a2⟩, b, ⟨?_, c2⟩, ⟨?_, d2⟩, ⟨?_, fun i hi => by have := f2 i hi; show lk (σ 4) i ≤ _; omega⟩, ?_, ?_, ?_, ?_, ?_, ?_, ?_, ?_, ?_, ?_, ?_, ?_, ?_, ?_, ?_⟩
  · intro i hi
    obtain ⟨x1, x2, x3, x4⟩ := a1 i hi
    rw [en_kd, en_lk, en_pt (show 1 < 3 by omega), en_pt (show 2 < 3 by omega)]
    refine ⟨x1, fun k hk => by rw [en_pt hk]; exact x2 k hk, fun z => ⟨?_, fun k hk => by rw [en_pt hk]; exact (x3 z).2 k hk⟩, x4⟩
    rw [if_neg (fun y => ek (by rw [← y]; exact z))]; exact (x3 z).1
  · intro i j k l hi hj hk hl x y
    rw [en_pt hk] at x y
    rw [en_pt hl] at y
    exact c1 i j k l hi hj hk hl x y
  · exact ⟨by rw [en_kd]; exact d1.1, by rw [en_pt (by omega)]; exact d1.2⟩
  · intro i hi
    rw [en_lk]
    have := f1 i hi
    split <;> omega
  · refine ⟨g5.1, fun b hb => ⟨(g5.2.1 b hb).1, ?_, (g5.2.1 b hb).2.2⟩, g5.2.2.1, fun p hp => ⟨?_, (g5.2.2.2 p hp).2⟩⟩
    · show up (σ 7) (q / 8) _ b < 256
      by_cases z : b = q / 8
      · rw [z, up_s]; exact (sb_ok _ (g5.2.1 _ (by omega)).2.1 _ (by omega)).2.1
      · rw [up_n z]; exact (g5.2.1 b hb).2.1
    · rw [en_w]
      split
      · have := ok1.2.1; omega
      · exact (g5.2.2.2 p hp).1
  · intro i k hi hk z
    rw [en_pt hk] at z ⊢
    exact g6 i k hi hk z
  · exact g7
  · intro i k hi hk z
    have := g8 i k hi hk z
    refine ⟨this.1, this.2.1, this.2.2.1, ?_⟩
    rw [en_pt hk]; exact this.2.2.2.imp_right (fun z => ⟨z.1, fun y => by rw [en_kd]; exact z.2 y⟩)
  · intro i hi x y
    rw [en_kd] at y ⊢; exact g10 i hi x y
  · intro p hp hD' z
    by_cases y : p = q
    · rw [en_w, if_pos y, en_kd, en_pt (by omega)]
      exact ⟨ok1, ek, ei, e2, fun w => absurd ((en_yb h5 hq).mpr (Or.inr y)) w⟩
    · rw [hw p y] at z ⊢
      rw [en_kd, en_pt (by omega)]
      obtain ⟨u1, u2, u3, u4, u5⟩ := g11 p hp (en_DB.mp hD') z
      exact ⟨u1, u2, u3, u4, fun w => u5 (fun v => w ((en_yb h5 hq).mpr (Or.inl v)))⟩
  · intro p hp hD' z
    rw [hsn] at z ⊢
    rw [en_kd]
    exact g12 p hp (en_DB.mp hD') z
  · intro p hp hD' z y
    rw [hsn] at y ⊢
    by_cases w : p = q
    · rw [w, hs] at y; exact absurd rfl y
    · rw [hw p w] at z ⊢
      exact g13 p hp (en_DB.mp hD') z y
  · intro p hp' z
    by_cases w : p = q
    · have := (g6 d 0 hd (by omega) (by rw [hp]; exact hp0)).2
      rw [hp] at this
      rw [w] at z
      have z' : σ 8 (q / 8) = 2 := z
      omega
    · rw [hw p w]; exact g14 p hp' z
  · intro i x y z
    rw [en_kd] at z
    rw [en_lk]
    have := g15 i x y z
    by_cases w : i = e % 32
    · rw [if_pos w, hUn1 i w]; omega
    · rw [if_neg w, hUn0 i w]; exact this
  · intro i x y z
    refine Nat.le_trans (cn_mono (fun p hp ⟨u, v⟩ => ⟨en_DB.mp u, v.imp_right (fun ⟨s, t⟩ => ?_)⟩)) (g16 i x y z)
    rcases (en_nm h0 he).mp s with s' | s'
    · exact ⟨s', fun r => t ((en_yb h5 hq).mpr (Or.inl r))⟩
    · exact absurd ((en_yb h5 hq).mpr (Or.inr s'.1)) t
  · intro p z
    have hown : ∀ b, (∃ i, i < 18 ∧ kd (σ 1) i = 2 ∧ pt (σ 1) i 0 = b) → ∃ i, i < 18 ∧ kd (enS σ q e 1) i = 2 ∧ pt (enS σ q e 1) i 0 = b := fun b ⟨i, u, v, w⟩ => ⟨i, u, by rw [en_kd]; exact v, by rw [en_pt (by omega)]; exact w⟩
    by_cases w : p = q
    · rw [en_w, if_pos w, w]
      exact ⟨⟨he, hs⟩, hp0, hown _ ⟨d, hd, h2, hp⟩⟩
    · rcases (en_yb h5 hq).mp z with y | y
      · obtain ⟨u1, u2, u3⟩ := g17 p y
        rw [hw p w]
        exact ⟨u1, u2, hown _ u3⟩
      · exact absurd y w
  · intro i hi z; rw [en_kd]; exact g18 i hi z
  · intro i hi y z; rw [en_kd] at y; exact g19 i hi y z
  · intro i x y z w u v
    rw [en_kd] at z
    rw [en_pt (by omega)] at w
    rw [en_lk]
    have hne : i ≠ e % 32 := fun s => u q hq (en_DB.mpr hD) ((en_nm h0 he).mpr (Or.inr ⟨rfl, s.symm⟩))
    rw [if_neg hne, hUn0 i hne]
    have hno : ∀ p, p < 288 → DB σ (p / 8) → ¬ nmM σ i p := fun p hp hD' s => u p hp (en_DB.mpr hD') ((en_nm h0 he).mpr (Or.inl s))
    obtain ⟨c, hc, hv⟩ := v
    rw [en_pt (by omega)] at hv
    by_cases s : 8 * pt (σ 1) i 0 + c = q
    · have : i = d := (c1 i d 0 0 y hd (by omega) (by omega) w (by rw [hp]; omega)).1
      subst this
      obtain ⟨p, p1, p2, p3⟩ := ht (by omega)
      exact absurd p3 (hno p p1 p2)
    · rw [hw _ s] at hv
      exact g20 i x y z w hno ⟨c, hc, hv⟩
theorem en_Ins (hL : ∀ j, 0 < j → j < 18 → kd (σ 1) j ≠ 0 → j ≠ e % 32 → 0 < lk (σ 1) j) (h7 : V7s σ) (h18 : V18s σ) (h9 : V9 σ) : Ins (enS σ q e) := by
  refine ⟨fun j a b c => ?_, h7, h18, h9⟩
  rw [en_kd] at c
  rw [en_lk]
  by_cases w : j = e % 32
  · rw [if_pos w]; omega
  · rw [if_neg w]; exact hL j a b c w
theorem en_owd (hs : sn σ q = 0) : owd (enS σ q e) = owd σ := by
  funext j
  unfold owd
  by_cases hj : j < 18
  · rw [if_pos hj, if_pos hj]
    refine cn_congr (fun p _ => and_congr en_DB ?_)
    show (enS σ q e 2 p = 0 ∧ nmD σ j p) ↔ _
    by_cases w : p = q
    · rw [w]; exact ⟨fun z => absurd hs z.2.1, fun z => absurd hs z.2.1⟩
    · rw [en_w, if_neg w]
  · rw [if_neg hj, if_neg hj]
theorem cf_makeEntry {d c : Nat} (h5 : V5 σ) (hd : d < 18) (hp : pt (σ 1) d 0 < 36) (hc : c < 8) (ok1 : ok e) : s_V_makeEntry (nI d) (nI c) (nI e) (zz (σ 1)) (zz (σ 2)) (zz (σ 7)) = some (zz (enS σ (8 * pt (σ 1) d 0 + c) e 1), zz (enS σ (8 * pt (σ 1) d 0 + c) e 2), zz (enS σ (8 * pt (σ 1) d 0 + c) e 7)) := by
  have i18 := ok1.2.2.2
  have o2 := ok1.2.1
  have e8 : (8 * pt (σ 1) d 0 + c) / 8 = pt (σ 1) d 0 := by omega
  have e8' : (8 * pt (σ 1) d 0 + c) % 8 = c := by omega
  unfold s_V_makeEntry
  rw [bd_e (cf_pointer hd (by omega)), bd_e (cf_setWord hp hc), gr_e _ rfl hp (by decide), ga_e _ rfl hp (by decide), pk_rem (by omega) (by decide) (by decide), bd_e (cf_links i18), nI_add, bd_e (cf_setLinks i18), show zz (σ 7) (pt (σ 1) d 0) = nI (σ 7 (pt (σ 1) d 0)) from rfl, (sb_ok _ (h5.2.1 _ hp).2.1 c hc).1, nI_clamp (by omega), zz_up]
  show some (_, _, _) = some (_, _, zz (up (σ 7) ((8 * pt (σ 1) d 0 + c) / 8) (sb (σ 7 ((8 * pt (σ 1) d 0 + c) / 8)) ((8 * pt (σ 1) d 0 + c) % 8))))
  rw [e8, e8']; rfl
theorem cf_enter {d c m i : Nat} (hF : 8 < F) (h : Inw n σ) (hn : n ≤ 1000) (hd : d < 18) (h2 : kd (σ 1) d = 2) (hp : pt (σ 1) d 0 ≠ 0) (hc : c < 8) (hm : 1 ≤ m) (hm2 : m ≤ 999) (i0 : 0 < i) (i18 : i < 18) (hpl : sr (pc0 (σ 1) (σ 2) (σ 5) (σ 6) d) 8 = c) : s_R_enter F (zz (rM (σ 3) (σ 4) (σ 5))) (zz (σ 6)) (nI d) (nI m) (nI i) (bz (yb σ)) (zz (rM (σ 0) (σ 1) (σ 2))) = some (bz (yb (enS σ (8 * pt (σ 1) d 0 + c) (32 * m + i))), zz (rM (σ 0) (enS σ (8 * pt (σ 1) d 0 + c) (32 * m + i) 1) (enS σ (8 * pt (σ 1) d 0 + c) (32 * m + i) 2))) := by
  have hT := Inw_VT1 h hn
  have hE := VEm h
  have hD := isD_p hT hd (k := 0) (by omega) hp
  have hb := hD.1
  have h5 := Inw_V5 h
  have hsd : ∀ c, c < 8 → sdw (σ 5) (σ 6) (8 * pt (σ 1) d 0 + c) < 2 ^ 31 := fun c hc => by
    rw [← sn_sdw]
    by_cases z : sn σ (8 * pt (σ 1) d 0 + c) = 0
    · omega
    · have := (Inw_V12 h (8 * pt (σ 1) d 0 + c) (by omega) (by rw [show (8 * pt (σ 1) d 0 + c) / 8 = pt (σ 1) d 0 by omega]; exact DBm hd h2 hp) z).1.2.1; omega
  have ey : bz (fun j => yb σ j ∨ j = 8 * pt (σ 1) d 0 + c) = bz (yb (enS σ (8 * pt (σ 1) d 0 + c) (32 * m + i))) := bz_congr (fun j => (en_yb h5 (by omega)).symm)
  have hei : (32 * m + i) % 32 = i := by omega
  have e1' : σ 1 (5 * d + 2) = pt (σ 1) d 0 := rfl
  unfold s_R_enter
  rw [bd_e (cf_at hd (by omega)), rd_t hd (by omega), e1', bd_e (cf_place hF hT (fun b hb => (h5.2.1 b hb).1) hd h2 hp (fun c hc => (hE d c hd hc).1) hsd), hpl, ans_t hc, show nI 30 * nI (pt (σ 1) d 0) + nI c = nI (30 * pt (σ 1) d 0 + c) by rw [pk_mul, nI_add], show nI 8 * nI (pt (σ 1) d 0) + nI c = nI (8 * pt (σ 1) d 0 + c) by rw [pk_mul, nI_add], show nI 32 * nI m + nI i = nI (32 * m + i) by rw [pk_mul, nI_add], ga_e _ rfl (by omega) (by decide), ga_e _ rfl (by omega) (by decide), nI_clamp (by omega), nI_clamp (by omega), nar1, bz_1, ey, zz_up, up_w hD hc, bd_e (cf_at i18 (by omega)), rd_t i18 (by omega)]
  rw [ga_e _ rfl (by omega) (by decide), nI_clamp (by omega), nI_add, zz_up, up_t i18 (by omega)]
  show _ = some (_, zz (rM (σ 0) (up (σ 1) (5 * ((32 * m + i) % 32) + 1) (lk (σ 1) ((32 * m + i) % 32) + 1)) (up (σ 2) (8 * pt (σ 1) d 0 + c) (32 * m + i))))
  rw [hei]
end EN
