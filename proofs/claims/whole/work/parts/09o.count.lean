-- the reference's counting of what is owed
noncomputable def rT (σ : St) (J : Nat → Prop) (lf : Nat → Nat) : Nat → Nat := fun n => if n % 5 = 1 then lf (n / 5) else pif (J (n / 5)) 0 (σ 1 n)
section CT
variable {n Fu : Nat} {σ : St} {J F N : Nat → Prop} {lf C : Nat → Nat}
theorem rT_kd {i : Nat} : kd (rT σ J lf) i = pif (J i) 0 (kd (σ 1) i) := by
  show (if (5 * i) % 5 = 1 then _ else pif (J (5 * i / 5)) 0 (σ 1 (5 * i))) = _
  rw [if_neg (by omega), show 5 * i / 5 = i by omega]
theorem rT_lk {i : Nat} : lk (rT σ J lf) i = lf i := by
  show (if (5 * i + 1) % 5 = 1 then lf ((5 * i + 1) / 5) else _) = _
  rw [if_pos (by omega), show (5 * i + 1) / 5 = i by omega]
theorem rT_pt {i k : Nat} (hk : k < 3) : pt (rT σ J lf) i k = pif (J i) 0 (pt (σ 1) i k) := by
  show (if (5 * i + 2 + k) % 5 = 1 then _ else pif (J ((5 * i + 2 + k) / 5)) 0 (σ 1 (5 * i + 2 + k))) = _
  rw [if_neg (by omega), show (5 * i + 2 + k) / 5 = i by omega]
theorem rT_VT (hT : VT (σ 1)) (hl : ∀ i, i < 18 → lf i < 2 ^ 30) : VT (rT σ J lf) := by
  intro i hi
  obtain ⟨h1, h2, h3⟩ := hT i hi
  refine ⟨?_, ?_, fun k hk => ?_⟩
  · rw [rT_kd]; by_cases j : J i
    · rw [pif_t j]; omega
    · rw [pif_f j]; exact h1
  · rw [rT_lk]; exact hl i hi
  · rw [rT_pt hk]; by_cases j : J i
    · rw [pif_t j]; exact Or.inl rfl
    · rw [pif_f j]; exact h3 k hk
-- which blocks are watched
theorem ow_2 {T : Nat → Nat} {b : Nat} (hJ : VJ T) (hb : b ≠ 0) : ow T b = 2 ↔ ∃ i k, i < 18 ∧ k < 3 ∧ pt T i k = b ∧ kd T i = 2 := by
  unfold ow
  by_cases h : sr (fun i => ∃ k', k' < 3 ∧ pt T i k' = b) 18 < 18
  · rw [if_pos h]
    obtain ⟨k, hk, e⟩ := (sr_spec (fun i => ∃ k', k' < 3 ∧ pt T i k' = b) 18).2.1 h
    refine ⟨fun q => ⟨_, k, h, hk, e, q⟩, fun ⟨i, k', i1, i2, i3, i4⟩ => ?_⟩
    rw [← (hJ i _ k' k i1 h i2 hk (by rw [i3]; exact hb) (i3.trans e.symm)).1]; exact i4
  · rw [if_neg h]
    exact ⟨fun q => absurd q (by decide), fun ⟨i, k', i1, i2, i3, i4⟩ => absurd (sr_lt.mpr ⟨i, i1, k', i2, i3⟩) h⟩
def wt (D T : Nat → Nat) (b : Nat) : Prop := 2 ≤ b % 12 ∧ (D b = 2 ∨ ow T b = 2)
theorem rT_VJ (hJ : VJ (σ 1)) : VJ (rT σ J lf) := by
  intro i j k l hi hj hk hl h0 he
  rw [rT_pt hk] at h0 he
  rw [rT_pt hl] at he
  by_cases ji : J i
  · rw [pif_t ji] at h0; exact absurd rfl h0
  · rw [pif_f ji] at h0 he
    by_cases jj : J j
    · rw [pif_t jj] at he; exact absurd he h0
    · rw [pif_f jj] at he; exact hJ i j k l hi hj hk hl h0 he
theorem wt_iff (h : Inw n σ) (hF : ∀ b, F b → σ 8 b ≠ 0 ∨ ∃ i k, i < 18 ∧ k < 3 ∧ J i ∧ pt (σ 1) i k = b) {b : Nat} (hb : b < 36) : wt (app σ J F N 8) (rT σ J lf) b ↔ ¬ F b ∧ DB σ b := by
  have dir0 : ∀ i k, i < 18 → k < 3 → kd (σ 1) i = 2 → pt (σ 1) i k = b → b ≠ 0 → pt (σ 1) i 0 = b := by
    intro i k hi hk h2 e h0
    have hp := (h.1.1 i hi).2.2.2 h2
    rcases (show k = 0 ∨ k = 1 ∨ k = 2 by omega) with rfl | rfl | rfl
    · exact e
    · rw [hp.1] at e; exact absurd e.symm h0
    · rw [hp.2] at e; exact absurd e.symm h0
  constructor
  · rintro ⟨h2, hw⟩
    have h0 : b ≠ 0 := by omega
    rcases hw with hw | hw
    · have hv : app σ J F N 8 b ≠ 0 := by rw [hw]; decide
      have := ap8_own h hb hv
      exact ⟨this.1, (ap8_DB h hb this.1 hv).mp hw⟩
    · obtain ⟨i, k, i1, i2, i3, i4⟩ := (ow_2 (rT_VJ h.2.2.1.1) h0).mp hw
      rw [rT_pt i2] at i3
      rw [rT_kd] at i4
      by_cases ji : J i
      · rw [pif_t ji] at i4; cases i4
      · rw [pif_f ji] at i3 i4
        refine ⟨fun q => ?_, h0, Or.inr ⟨i, i1, i4, dir0 i k i1 i2 i4 i3 h0⟩⟩
        rcases hF b q with z | ⟨x, l, x1, x2, x3, x4⟩
        · have := (Inw_V6 h i k i1 i2 (by rw [i3]; exact h0)).2
          rw [i3] at this; exact z this
        · have := (h.2.2.1.1 x i l k x1 i1 x2 i2 (by rw [x4]; exact h0) (x4.trans i3.symm)).1
          exact ji (this ▸ x3)
  · rintro ⟨hnF, h0, hD⟩
    have hisD : isD b := by
      rcases hD with e | ⟨i, i1, i2, i3⟩
      · exact (Inw_V7 h b hb (by rw [e]; decide)).1
      · rcases (h.1.1 i i1).2.1 0 (by omega) with z | z
        · rw [i3] at z; exact absurd z h0
        · rw [← i3]; exact z
    refine ⟨hisD.2, ?_⟩
    have e : app σ J F N 8 b = pif (F b) 0 (pif (b ≠ 0 ∧ ∃ i k, i < 18 ∧ k < 3 ∧ J i ∧ kd (σ 1) i = 2 ∧ pt (σ 1) i k = b) 2 (pif (b ≠ 0 ∧ ∃ i k, i < 18 ∧ k < 3 ∧ J i ∧ pt (σ 1) i k = b) 1 (σ 8 b))) := rfl
    rcases hD with h2 | ⟨i, i1, i2, i3⟩
    · left
      rw [e, pif_f hnF]
      by_cases c : b ≠ 0 ∧ ∃ i k, i < 18 ∧ k < 3 ∧ J i ∧ kd (σ 1) i = 2 ∧ pt (σ 1) i k = b
      · rw [pif_t c]
      · rw [pif_f c, pif_f, h2]
        rintro ⟨_, x, k, x1, x2, _, x4⟩
        have := (Inw_V6 h x k x1 x2 (by rw [x4]; exact h0)).2
        rw [x4, h2] at this; cases this
    · by_cases ji : J i
      · left; rw [e, pif_f hnF, pif_t ⟨h0, i, 0, i1, by omega, ji, i2, i3⟩]
      · right
        refine (ow_2 (rT_VJ h.2.2.1.1) h0).mpr ⟨i, 0, i1, by omega, ?_, ?_⟩
        · rw [rT_pt (by omega), pif_f ji]; exact i3
        · rw [rT_kd, pif_f ji]; exact i2
-- the counting
noncomputable def cq (σ : St) (Wt : Nat → Prop) (C : Nat → Nat) (q : Nat) : Nat → Nat := fun j => if j < 18 then cn (fun q' => Wt (q' / 8) ∧ σ 2 q' = 0 ∧ nmD σ j q') q else C j
theorem cq_f {Wt : Nat → Prop} {q : Nat} (h : ¬ (Wt (q / 8) ∧ σ 2 q = 0 ∧ sn σ q ≠ 0)) : cq σ Wt C (q + 1) = cq σ Wt C q := by
  funext j; unfold cq
  by_cases hj : j < 18
  · rw [if_pos hj, if_pos hj]; exact cn_f (P := fun q' => Wt (q' / 8) ∧ σ 2 q' = 0 ∧ nmD σ j q') (fun z => h ⟨z.1, z.2.1, z.2.2.1⟩)
  · rw [if_neg hj, if_neg hj]
theorem cq_t {Wt : Nat → Prop} {q : Nat} (h : Wt (q / 8) ∧ σ 2 q = 0 ∧ sn σ q ≠ 0) (h18 : sn σ q % 32 < 18) : up (cq σ Wt C q) (sn σ q % 32) (cq σ Wt C q (sn σ q % 32) + 1) = cq σ Wt C (q + 1) := by
  funext j
  by_cases e : j = sn σ q % 32
  · rw [e, up_s]; unfold cq; rw [if_pos h18, if_pos h18]
    exact (cn_t (P := fun q' => Wt (q' / 8) ∧ σ 2 q' = 0 ∧ nmD σ (sn σ q % 32) q') ⟨h.1, h.2.1, h.2.2, rfl⟩).symm
  · rw [up_n e]; unfold cq
    by_cases hj : j < 18
    · rw [if_pos hj, if_pos hj]
      exact (cn_f (P := fun q' => Wt (q' / 8) ∧ σ 2 q' = 0 ∧ nmD σ j q') (fun z => e z.2.2.2.symm)).symm
    · rw [if_neg hj, if_neg hj]
theorem cq_skip {Wt : Nat → Prop} {a b : Nat} (hab : a ≤ b) (h : ∀ q, a ≤ q → q < b → ¬ Wt (q / 8)) : cq σ Wt C b = cq σ Wt C a := by
  funext j; unfold cq
  by_cases hj : j < 18
  · rw [if_pos hj, if_pos hj]; exact cn_skip hab (fun q h1 h2 z => h q h1 h2 z.1)
  · rw [if_neg hj, if_neg hj]
theorem cf_count_64 {A T : Nat → Nat} {k23 : Int32 → (Nat → Int32) → (Nat → Int32) → (Nat → Int32) → (Nat → Int32) → (Nat → Int32) → Option (Int32 × (Nat → Int32) × (Nat → Int32) × (Nat → Int32) × (Nat → Int32) × (Nat → Int32))} {dr rl od : Nat → Int32} {b : Nat} {Wt : Nat → Prop} (h : Inw n σ) (hb : isD b) (hW : Wt b) (hD : DB σ b) : ∀ (r c m : Nat), c + r = 8 → r < m → s_R_count_64 Fu (zz (rM (σ 3) (σ 4) (σ 5))) (zz (σ 6)) k23 m (nI b) (nI 1) (nI c) dr (zz (rM A T (σ 2))) rl od (zz (cq σ Wt C (8 * b + c))) = k23 (nI (b + 1)) dr (zz (rM A T (σ 2))) rl od (zz (cq σ Wt C (8 * (b + 1)))) := by
  have hb1 := hb.1
  intro r
  induction r with
  | zero =>
    intro c m hc hm
    obtain ⟨m, rfl⟩ : ∃ q, m = q + 1 := ⟨m - 1, by omega⟩
    unfold s_R_count_64
    rw [if_pos (nI_le (by omega) (by omega)), nI_add, show 8 * (b + 1) = 8 * b + c by omega]
  | succ r ih =>
    intro c m hc hm
    obtain ⟨m, rfl⟩ : ∃ q, m = q + 1 := ⟨m - 1, by omega⟩
    have e8 : (8 * b + c) / 8 = b := by omega
    have this := ih (c + 1) m (by omega) (by omega)
    rw [show 8 * b + (c + 1) = 8 * b + c + 1 by omega] at this
    have hw := ((Inw_V5 h).2.2.2 (8 * b + c) (by omega)).1
    unfold s_R_count_64
    rw [if_neg (nI_ge (by omega) (by omega)), if_neg (show ¬ nI 1 = 0 by decide), rd_w hb (by omega), bd_e (cf_seen' hb (by omega) ((Inw_V5 h).2.1 b hb1).1), bd_e (cf_seen' hb (by omega) ((Inw_V5 h).2.1 b hb1).1), ← sn_sdw, nI_add c 1]
    have z32 : nI (σ 2 (8 * b + c)) = 0 ↔ σ 2 (8 * b + c) = 0 := by rw [← nI_0]; exact nI32 hw (by decide)
    by_cases h0 : σ 2 (8 * b + c) = 0
    · rw [if_pos (z32.mpr h0)]
      by_cases hs : sn σ (8 * b + c) = 0
      · rw [if_pos (by rw [hs]; rfl)]
        rw [cq_f (fun z => z.2.2 hs)] at this; exact this
      · have hok := (Inw_V12 h (8 * b + c) (by omega) (by rw [e8]; exact hD) hs).1
        have ho1 := hok.2.1
        have ho2 := hok.2.2.2
        have hcq : cq σ Wt C (8 * b + c) (sn σ (8 * b + c) % 32) + 1 = cq σ Wt C (8 * b + c) (sn σ (8 * b + c) % 32) + 1 := rfl
        rw [if_neg (fun q => hs ((nI0 (by omega)).mp q)), pk_rem (by omega) (by decide) (by decide), gr_e _ rfl ho2 (by decide), ga_e _ rfl ho2 (by decide), nI_clamp (by omega)]
        show s_R_count_64 Fu _ _ k23 m (nI b) (nI 1) (nI (c + 1)) dr _ rl od (upd (zz (cq σ Wt C (8 * b + c))) (sn σ (8 * b + c) % 32) (nI (cq σ Wt C (8 * b + c) (sn σ (8 * b + c) % 32)) + nI 1)) = _
        rw [nI_add, zz_up, cq_t (by rw [e8]; exact ⟨hW, h0, hs⟩) ho2]
        exact this
    · rw [if_neg (fun q => h0 (z32.mp q))]
      rw [cq_f (fun z => h0 z.2.1)] at this; exact this
theorem cf_count_23 {A : Nat → Nat} {rl od : Nat → Int32} (hFu : 36 < Fu) (hn : n ≤ 1000) (h : Inw n σ) (hlf : ∀ i, i < 18 → lf i < 2 ^ 30) (hF : ∀ b, F b → σ 8 b ≠ 0 ∨ ∃ i k, i < 18 ∧ k < 3 ∧ J i ∧ pt (σ 1) i k = b) : ∀ (r b m : Nat), b + r = 36 → r < m → s_R_count_23 Fu (zz (rM (σ 3) (σ 4) (σ 5))) (zz (σ 6)) m (nI b) (zz (app σ J F N 8)) (zz (rM A (rT σ J lf) (σ 2))) rl od (zz (cq σ (wt (app σ J F N 8) (rT σ J lf)) C (8 * b))) = s_R_count_131 Fu (zz (rM (σ 3) (σ 4) (σ 5))) (zz (σ 6)) Fu (nI 0) (nI 0) (zz (app σ J F N 8)) (zz (rM A (rT σ J lf) (σ 2))) rl od (zz (cq σ (wt (app σ J F N 8) (rT σ J lf)) C 288)) := by
  have hT := rT_VT (J := J) (Inw_VT1 h hn) hlf
  intro r
  induction r with
  | zero =>
    intro b m hb hm
    obtain ⟨m, rfl⟩ : ∃ q, m = q + 1 := ⟨m - 1, by omega⟩
    unfold s_R_count_23
    rw [if_pos (nI_le (by omega) (by omega)), show b = 36 by omega]
  | succ r ih =>
    intro b m hb hm
    obtain ⟨m, rfl⟩ : ∃ q, m = q + 1 := ⟨m - 1, by omega⟩
    have this := ih (b + 1) m (by omega) (by omega)
    have h8 := ap8_le (J := J) (F := F) (N := N) h (b := b) (by omega)
    have how : ow (rT σ J lf) b < 2 ^ 31 := by
      unfold ow
      by_cases z : sr (fun i => ∃ k', k' < 3 ∧ pt (rT σ J lf) i k' = b) 18 < 18
      · rw [if_pos z]; have := VT_k hT z; omega
      · rw [if_neg z]; omega
    -- not watched: on; watched: count
    have no : ¬ wt (app σ J F N 8) (rT σ J lf) b → s_R_count_60 Fu (zz (rM (σ 3) (σ 4) (σ 5))) (zz (σ 6)) (s_R_count_23 Fu (zz (rM (σ 3) (σ 4) (σ 5))) (zz (σ 6)) m) (nI b) (zz (app σ J F N 8)) (zz (rM A (rT σ J lf) (σ 2))) rl od (zz (cq σ (wt (app σ J F N 8) (rT σ J lf)) C (8 * b))) = s_R_count_131 Fu (zz (rM (σ 3) (σ 4) (σ 5))) (zz (σ 6)) Fu (nI 0) (nI 0) (zz (app σ J F N 8)) (zz (rM A (rT σ J lf) (σ 2))) rl od (zz (cq σ (wt (app σ J F N 8) (rT σ J lf)) C 288)) := by
      intro hw
      obtain ⟨f, rfl⟩ : ∃ q, Fu = q + 1 := ⟨Fu - 1, by omega⟩
      unfold s_R_count_60 s_R_count_61 s_R_count_64
      rw [if_neg (show ¬ nI 8 ≤ nI 0 by decide), if_pos (show nI 0 = 0 from rfl), nI_add]
      rw [cq_skip (a := 8 * b) (b := 8 * (b + 1)) (by omega) (fun q h1 h2 z => hw (by rw [← show q / 8 = b by omega]; exact z))] at this
      exact this
    have yes : wt (app σ J F N 8) (rT σ J lf) b → s_R_count_56 Fu (zz (rM (σ 3) (σ 4) (σ 5))) (zz (σ 6)) (s_R_count_23 Fu (zz (rM (σ 3) (σ 4) (σ 5))) (zz (σ 6)) m) (nI b) (zz (app σ J F N 8)) (zz (rM A (rT σ J lf) (σ 2))) rl od (zz (cq σ (wt (app σ J F N 8) (rT σ J lf)) C (8 * b))) = s_R_count_131 Fu (zz (rM (σ 3) (σ 4) (σ 5))) (zz (σ 6)) Fu (nI 0) (nI 0) (zz (app σ J F N 8)) (zz (rM A (rT σ J lf) (σ 2))) rl od (zz (cq σ (wt (app σ J F N 8) (rT σ J lf)) C 288)) := by
      intro hw
      unfold s_R_count_56 s_R_count_61
      rw [← this]
      exact cf_count_64 (Wt := wt (app σ J F N 8) (rT σ J lf)) h ⟨by omega, hw.1⟩ hw ((wt_iff h hF (by omega)).mp hw).2 8 0 Fu rfl (by omega)
    unfold s_R_count_23
    rw [if_neg (nI_ge (by omega) (by omega)), pk_rem (by omega) (by decide) (by decide)]
    by_cases h1 : b % 12 ≤ 1
    · rw [if_pos (nI_le h1 (by omega))]
      exact no (fun z => by have := z.1; omega)
    · rw [if_neg (nI_ge (by omega) (by omega)), gr_e b rfl (by omega) (by decide)]
      show (if nI (app σ J F N 8 b) = nI 2 then _ else _) = _
      by_cases h2 : app σ J F N 8 b = 2
      · rw [if_pos (by rw [h2])]; exact yes ⟨by omega, Or.inl h2⟩
      · rw [if_neg (fun q => h2 ((nI_eq (by omega) (by decide)).mp q)), bd_e (cf_owner (by omega) hT (by omega))]
        by_cases h3 : ow (rT σ J lf) b = 2
        · rw [if_pos (by rw [h3])]; exact yes ⟨by omega, Or.inr h3⟩
        · rw [if_neg (fun q => h3 ((nI_eq how (by decide)).mp q))]
          exact no (fun z => z.2.elim h2 h3)
theorem cf_count_2 {dr rl od mem : Nat → Int32} {C : Nat → Nat} : ∀ (r k m : Nat), k + r = 18 → r < m → s_R_count_2 Fu (zz (rM (σ 3) (σ 4) (σ 5))) (zz (σ 6)) m (nI k) dr mem rl od (zz (cp C z1 0 k)) = s_R_count_23 Fu (zz (rM (σ 3) (σ 4) (σ 5))) (zz (σ 6)) Fu (nI 0) dr mem rl od (zz (cp C z1 0 18)) := by
  intro r
  induction r with
  | zero =>
    intro k m hk hm
    obtain ⟨m, rfl⟩ : ∃ q, m = q + 1 := ⟨m - 1, by omega⟩
    unfold s_R_count_2
    rw [if_pos (nI_le (by omega) (by omega)), show k = 18 by omega]
  | succ r ih =>
    intro k m hk hm
    obtain ⟨m, rfl⟩ : ∃ q, m = q + 1 := ⟨m - 1, by omega⟩
    unfold s_R_count_2
    rw [if_neg (nI_ge (by omega) (by omega)), ga_e k rfl (by omega) (by decide), nI_clamp (by omega), zz_up, nI_add]
    have := ih (k + 1) m (by omega) (by omega)
    rw [← cp_s, Nat.zero_add] at this
    exact this
end CT
