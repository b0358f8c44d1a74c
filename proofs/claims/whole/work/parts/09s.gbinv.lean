-- behind giving back the invariant holds
def Vx (σ : St) : Prop := ∀ i, 0 < i → i < 18 → kd (σ 1) i ≠ 0 → lk (σ 1) i = 0 → im (σ 0) i = 1
def NN (σ : St) (i : Nat) : Prop := i < 18 ∧ kd (σ 4) i = 0 ∧ (Js σ i ∨ σ 9 i = 2)
theorem GI_s {σ : St} : GI σ (Js σ) (Fs σ) (NN σ) := by
  have hC : Cl σ (fun i => Js σ i ∧ fl σ (Fs σ) i) (fun b => Fs σ b ∧ 0 < b ∧ b < 36 ∧ ¬ dn σ b ∧ (σ 8 b ≠ 0 ∨ ∃ i k, i < 18 ∧ k < 3 ∧ Js σ i ∧ pt (σ 1) i k = b)) := by
    refine ⟨fun i h0 h1 hk hl => ?_, fun b h0 hb hd ho => ?_⟩
    · have : lk (σ 1) i ≤ UF σ (Fs σ) i := Nat.le_trans hl (UF_mono (fun b q => q.1))
      exact ⟨(Cl_s σ).1 i h0 h1 hk this, h0, h1, hk, this⟩
    · have ho' : σ 8 b ≠ 0 ∨ ∃ i k, i < 18 ∧ k < 3 ∧ Js σ i ∧ pt (σ 1) i k = b := ho.imp_right (fun ⟨i, k, a, b, c, d⟩ => ⟨i, k, a, b, c.1, d⟩)
      exact ⟨(Cl_s σ).2 b h0 hb hd ho', h0, hb, hd, ho'⟩
  exact ⟨fun i q => (q _ _ hC).2, fun b q => (q _ _ hC).2, fun i q => q, fun _ q => q, fun _ q => q⟩
section GBI
variable {n : Nat} {σ : St}
theorem GB_def : GB σ = app σ (Js σ) (Fs σ) (NN σ) := rfl
theorem F_own (h : Inw n σ) {i k : Nat} (hi : i < 18) (hk : k < 3) (h0 : pt (σ 1) i k ≠ 0) (hJ : ¬ Js σ i) : ¬ Fs σ (pt (σ 1) i k) := by
  intro q
  rcases (GI_s.2.1 _ q).2.2.2 with z | ⟨x, l, x1, x2, x3, x4⟩
  · exact z (Inw_V6 h i k hi hk h0).2
  · exact hJ ((h.2.2.1.1 x i l k x1 hi x2 hk (by rw [x4]; exact h0) x4).1 ▸ x3)
theorem gb8 (h : Inw n σ) {i k : Nat} (hi : i < 18) (hk : k < 3) (h0 : pt (σ 1) i k ≠ 0) (hF : ¬ Fs σ (pt (σ 1) i k)) : GB σ 8 (pt (σ 1) i k) = pif (Js σ i) (kd (σ 1) i) 0 := by
  have uniq : ∀ x l, x < 18 → l < 3 → pt (σ 1) x l = pt (σ 1) i k → x = i := fun x l hx hl e => (h.2.2.1.1 x i l k hx hi hl hk (by rw [e]; exact h0) e).1
  show pif (Fs σ (pt (σ 1) i k)) 0 (pif (pt (σ 1) i k ≠ 0 ∧ ∃ x l, x < 18 ∧ l < 3 ∧ Js σ x ∧ kd (σ 1) x = 2 ∧ pt (σ 1) x l = pt (σ 1) i k) 2 (pif (pt (σ 1) i k ≠ 0 ∧ ∃ x l, x < 18 ∧ l < 3 ∧ Js σ x ∧ pt (σ 1) x l = pt (σ 1) i k) 1 (σ 8 (pt (σ 1) i k)))) = _
  rw [pif_f hF]
  by_cases hJ : Js σ i
  · rw [pif_t hJ]
    have hk2 := (h.1.1 i hi).1
    have hk0 := (GI_s.1 i hJ).2.2.1
    by_cases e2 : kd (σ 1) i = 2
    · rw [pif_t ⟨h0, i, k, hi, hk, hJ, e2, rfl⟩, e2]
    · rw [pif_f (fun ⟨_, x, l, x1, x2, _, x4, x5⟩ => e2 (uniq x l x1 x2 x5 ▸ x4)), pif_t ⟨h0, i, k, hi, hk, hJ, rfl⟩]; omega
  · rw [pif_f hJ, pif_f (fun ⟨_, x, l, x1, x2, x3, _, x5⟩ => hJ (uniq x l x1 x2 x5 ▸ x3)), pif_f (fun ⟨_, x, l, x1, x2, x3, x5⟩ => hJ (uniq x l x1 x2 x5 ▸ x3))]
    exact (Inw_V6 h i k hi hk h0).2
theorem gbm {b : Nat} (hb : isD b) (hF : ¬ Fs σ b) : bm (GB σ 0) b = bm (σ 0) b := by
  obtain ⟨h1, h2⟩ := hb
  show pif (((b / 12 * 16 + 4 + b % 12) % 16 < 6 ∧ NN σ ((b / 12 * 16 + 4 + b % 12) / 16 * 6 + (b / 12 * 16 + 4 + b % 12) % 16)) ∨ (¬ (b / 12 * 16 + 4 + b % 12) % 16 < 6 ∧ Fs σ ((b / 12 * 16 + 4 + b % 12) / 16 * 12 + ((b / 12 * 16 + 4 + b % 12) % 16 - 4)))) 0 _ = _
  rw [pif_f]
  rintro (z | z)
  · omega
  · rw [show (b / 12 * 16 + 4 + b % 12) / 16 * 12 + ((b / 12 * 16 + 4 + b % 12) % 16 - 4) = b by omega] at z; exact hF z.2
theorem gim {i : Nat} (hi : i < 18) (hN : ¬ NN σ i) : im (GB σ 0) i = im (σ 0) i := by
  show pif (((i / 6 * 16 + i % 6) % 16 < 6 ∧ NN σ ((i / 6 * 16 + i % 6) / 16 * 6 + (i / 6 * 16 + i % 6) % 16)) ∨ (¬ (i / 6 * 16 + i % 6) % 16 < 6 ∧ Fs σ ((i / 6 * 16 + i % 6) / 16 * 12 + ((i / 6 * 16 + i % 6) % 16 - 4)))) 0 _ = _
  rw [pif_f]
  rintro (z | z)
  · rw [show (i / 6 * 16 + i % 6) / 16 * 6 + (i / 6 * 16 + i % 6) % 16 = i by omega] at z; exact hN z.2
  · omega
theorem gDB (h : Inw n σ) {b : Nat} (hb : b < 36) : DB (GB σ) b ↔ ¬ Fs σ b ∧ DB σ b := DB_app h (fun b q => (GI_s.2.1 b q).2.2.2) hb
theorem gkd {i : Nat} : kd (GB σ 1) i = pif (Js σ i) 0 (kd (σ 1) i) := ap_kd
theorem glk {i : Nat} : lk (GB σ 1) i = lk (σ 1) i - UF σ (Fs σ) i := ap_lk
theorem gpt {i k : Nat} (hk : k < 3) : pt (GB σ 1) i k = pif (Js σ i) 0 (pt (σ 1) i k) := ap_pt hk
theorem gJk {i : Nat} (hk : kd (GB σ 1) i ≠ 0) : ¬ Js σ i ∧ kd (GB σ 1) i = kd (σ 1) i := by
  rw [gkd] at hk ⊢
  by_cases j : Js σ i
  · rw [pif_t j] at hk; exact absurd rfl hk
  · exact ⟨j, by rw [pif_f j]⟩
-- what is released is named nowhere any more
theorem J_named (h : Inw n σ) {i q : Nat} (hJ : Js σ i) (hq : q < 288) (hD : DB σ (q / 8)) (hm : nmM σ i q ∨ nmD σ i q) : Fs σ (q / 8) ∧ nmD σ i q := by
  have hf := GI_s.1 i hJ
  have hle : Un σ i ≤ UF σ (Fs σ) i := Nat.le_trans (Inw_V15 h i hf.1 hf.2.1 hf.2.2.1) hf.2.2.2
  have := cn_eq (P := fun q => Fs σ (q / 8) ∧ DB σ (q / 8) ∧ nmD σ i q) (Q := fun q => DB σ (q / 8) ∧ (nmM σ i q ∨ nmD σ i q)) (m := 288) (fun q _ z => ⟨z.2.1, Or.inr z.2.2⟩) hle q hq ⟨hD, hm⟩
  exact ⟨this.1, this.2.2⟩
theorem gUn (h : Inw n σ) {i : Nat} : Un (GB σ) i + UF σ (Fs σ) i ≤ Un σ i := by
  have e := cn_split (P := fun q => DB σ (q / 8) ∧ (nmM σ i q ∨ nmD σ i q)) (R := fun q => Fs σ (q / 8)) (n := 288)
  have e1 : UF σ (Fs σ) i ≤ cn (fun q => (DB σ (q / 8) ∧ (nmM σ i q ∨ nmD σ i q)) ∧ Fs σ (q / 8)) 288 := cn_mono (fun q _ z => ⟨⟨z.2.1, Or.inr z.2.2⟩, z.1⟩)
  have e2 : Un (GB σ) i = cn (fun q => (DB σ (q / 8) ∧ (nmM σ i q ∨ nmD σ i q)) ∧ ¬ Fs σ (q / 8)) 288 :=
    cn_congr (fun q hq => by
      rw [gDB h (by omega)]
      exact ⟨fun ⟨⟨a, b⟩, c⟩ => ⟨⟨b, c⟩, a⟩, fun ⟨⟨b, c⟩, a⟩ => ⟨⟨a, b⟩, c⟩⟩)
  have e3 : Un σ i = cn (fun q => DB σ (q / 8) ∧ (nmM σ i q ∨ nmD σ i q)) 288 := rfl
  omega
theorem gN {i : Nat} (h : Inw n σ) (hJ : ¬ Js σ i) (hk : kd (σ 1) i ≠ 0) : ¬ NN σ i := fun q => q.2.2.elim hJ (fun z => hk (Inw_V18 h i q.1 z).1)
theorem g9 {i : Nat} : GB σ 9 i = pif (NN σ i) 0 (pif (Js σ i) 2 (pif (fl σ (Fs σ) i) 1 (σ 9 i))) := rfl
theorem g9_2 (h : Inw n σ) {i : Nat} (hi : i < 18) : GB σ 9 i = 2 ↔ ¬ NN σ i ∧ (Js σ i ∨ σ 9 i = 2) := by
  rw [g9]
  by_cases a : NN σ i
  · rw [pif_t a]; exact ⟨fun q => absurd q (by decide), fun q => absurd a q.1⟩
  · rw [pif_f a]
    by_cases b : Js σ i
    · rw [pif_t b]; exact ⟨fun _ => ⟨a, Or.inl b⟩, fun _ => rfl⟩
    · rw [pif_f b, pif_f (fun q => b ((Cl_s σ).1 i q.1 q.2.1 q.2.2.1 q.2.2.2))]
      exact ⟨fun q => ⟨a, Or.inr q⟩, fun q => q.2.resolve_left b⟩
theorem GB_Inw (h : Inw n σ) (hx : Vx σ) : Inw n (GB σ) := by
  have hGI := GI_s (σ := σ)
  obtain ⟨⟨hX1, hX4⟩, hL4, ⟨hJ1, hJ4⟩, ⟨hR1, hR4⟩, ⟨hn1, hn4⟩, h5, h6, h7, h8, h10, h11, h12, h13, h14, h15, h16, h17, h18, h19, h20⟩ := id h
  have hJ0 : ∀ i, Js σ i → 0 < i ∧ i < 18 ∧ kd (σ 1) i ≠ 0 ∧ lk (σ 1) i ≤ UF σ (Fs σ) i := fun i q => hGI.1 i q
  refine ⟨⟨?_, hX4⟩, hL4, ⟨?_, hJ4⟩, ⟨?_, hR4⟩, ⟨?_, hn4⟩, ?_, ?_, ?_, ?_, ?_, ?_, ?_, ?_, ?_, ?_, ?_, ?_, ?_, ?_, ?_⟩
  · -- tables
    intro i hi
    obtain ⟨a, b, c, d⟩ := hX1 i hi
    by_cases j : Js σ i
    · have := hJ0 i j
      refine ⟨by rw [gkd, pif_t j]; omega, fun k hk => by rw [gpt hk, pif_t j]; exact Or.inl rfl, fun _ => ⟨by rw [glk]; omega, fun k hk => by rw [gpt hk, pif_t j]⟩, fun q => by rw [gkd, pif_t j] at q; cases q⟩
    · refine ⟨by rw [gkd, pif_f j]; exact a, fun k hk => by rw [gpt hk, pif_f j]; exact b k hk, fun q => ?_, fun q => ?_⟩
      · rw [gkd, pif_f j] at q
        exact ⟨by rw [glk, (c q).1]; omega, fun k hk => by rw [gpt hk, pif_f j]; exact (c q).2 k hk⟩
      · rw [gkd, pif_f j] at q
        rw [gpt (by omega), gpt (by omega), pif_f j, pif_f j]; exact d q
  · intro i j k l hi hj hk hl h0 he
    rw [gpt hk] at h0 he
    rw [gpt hl] at he
    by_cases ji : Js σ i
    · rw [pif_t ji] at h0; exact absurd rfl h0
    · rw [pif_f ji] at h0 he
      by_cases jj : Js σ j
      · rw [pif_t jj] at he; exact absurd he h0
      · rw [pif_f jj] at he; exact hJ1 i j k l hi hj hk hl h0 he
  · have j0 : ¬ Js σ 0 := fun q => absurd (hJ0 0 q).1 (Nat.lt_irrefl _)
    exact ⟨by rw [gkd, pif_f j0]; exact hR1.1, by rw [gpt (by omega), pif_f j0]; exact hR1.2⟩
  · intro i hi; rw [glk]; have := hn1 i hi; omega
  · refine ⟨fun m hm => ⟨?_, (h5.1 m hm).2⟩, fun b hb => ⟨(h5.2.1 b hb).1, (h5.2.1 b hb).2.1, ap8_le h hb⟩, h5.2.2.1, h5.2.2.2⟩
    show pif ((m % 16 < 6 ∧ NN σ (m / 16 * 6 + m % 16)) ∨ (¬ m % 16 < 6 ∧ Fs σ (m / 16 * 12 + (m % 16 - 4)))) 0 (σ 0 m) ≤ 1
    by_cases z : (m % 16 < 6 ∧ NN σ (m / 16 * 6 + m % 16)) ∨ (¬ m % 16 < 6 ∧ Fs σ (m / 16 * 12 + (m % 16 - 4)))
    · rw [pif_t z]; omega
    · rw [pif_f z]; exact (h5.1 m hm).1
  · -- V6
    intro i k hi hk h0
    rw [gpt hk] at h0 ⊢
    by_cases ji : Js σ i
    · rw [pif_t ji] at h0; exact absurd rfl h0
    · rw [pif_f ji] at h0 ⊢
      have hF := F_own h hi hk h0 ji
      have hD : isD (pt (σ 1) i k) := ((hX1 i hi).2.1 k hk).resolve_left h0
      exact ⟨by rw [gbm hD hF]; exact (h6 i k hi hk h0).1, by rw [gb8 h hi hk h0 hF, pif_f ji]⟩
  · -- V7
    intro b hb hv
    obtain ⟨o1, o2, o3⟩ := ap8_own h hb hv
    refine ⟨o2, ?_⟩
    rw [gbm o2 o1]
    rcases o3 with z | ⟨i, k, i1, i2, i3, i4⟩
    · exact (h7 b hb z).2
    · rw [← i4]; exact (h6 i k i1 i2 (by rw [i4]; have := o2.2; omega)).1
  · -- V8
    intro i k hi hk h0
    obtain ⟨a, b, c, d⟩ := h8 i k hi hk h0
    have hD : isD (pt (σ 4) i k) := ((hX4 i hi).2.1 k hk).resolve_left h0
    have hF : ¬ Fs σ (pt (σ 4) i k) := fun q => (hGI.2.1 _ q).2.2.1 ⟨i, k, hi, hk, rfl⟩
    have hk4 : kd (σ 4) i ≠ 0 := fun z => h0 (((hX4 i hi).2.2.1 z).2 k hk)
    refine ⟨by show bm (GB σ 0) (pt (σ 4) i k) = 1; rw [gbm hD hF]; exact a, b, c, ?_⟩
    show pt (GB σ 1) i k = pt (σ 4) i k ∨ (GB σ 8 (pt (σ 4) i k) = kd (σ 4) i ∧ (kd (σ 4) i = 2 → kd (GB σ 1) i = 0))
    rw [gpt hk]
    rcases d with d | d
    · by_cases ji : Js σ i
      · right
        refine ⟨?_, fun _ => by rw [gkd, pif_t ji]⟩
        rw [← d] at hF ⊢
        rw [gb8 h hi hk (by rw [d]; exact h0) hF, pif_t ji]
        exact (h10 i hi hk4 (hJ0 i ji).2.2.1).symm
      · left; rw [pif_f ji]; exact d
    · right
      obtain ⟨d, d2⟩ := d
      have d3 : kd (σ 4) i = 2 → kd (GB σ 1) i = 0 := by
        intro z
        rw [gkd, d2 z]
        by_cases j : Js σ i
        · rw [pif_t j]
        · rw [pif_f j]
      refine ⟨?_, d3⟩
      have nJ : ¬ ∃ x l, x < 18 ∧ l < 3 ∧ Js σ x ∧ pt (σ 1) x l = pt (σ 4) i k := by
        rintro ⟨x, l, x1, x2, x3, x4⟩
        have := (h6 x l x1 x2 (by rw [x4]; exact h0)).2
        rw [x4, d] at this; exact hk4 this
      show pif (Fs σ (pt (σ 4) i k)) 0 (pif _ 2 (pif _ 1 (σ 8 (pt (σ 4) i k)))) = _
      rw [pif_f hF, pif_f (fun ⟨_, x, l, x1, x2, x3, _, x4⟩ => nJ ⟨x, l, x1, x2, x3, x4⟩), pif_f (fun ⟨_, z⟩ => nJ z)]
      exact d
  · intro i hi a b
    obtain ⟨j, e⟩ := gJk b
    show kd (σ 4) i = _
    rw [e] at b ⊢; exact h10 i hi a b
  · -- V11
    intro q hq hD h0
    obtain ⟨nF, hD⟩ := (gDB h (by omega)).mp hD
    have h0' : σ 2 q ≠ 0 := h0
    obtain ⟨a, b, c, d, e⟩ := h11 q hq hD h0'
    have nj : ¬ Js σ (σ 2 q % 32) := fun z => nF (J_named h z hq hD (Or.inl ⟨h0', rfl⟩)).1
    have nn := gN h nj b
    refine ⟨a, ?_, ?_, ?_, e⟩
    · show kd (GB σ 1) (σ 2 q % 32) ≠ 0; rw [gkd, pif_f nj]; exact b
    · show im (GB σ 0) (σ 2 q % 32) = 1; rw [gim a.2.2.2 nn]; exact c
    · show kd (GB σ 1) (σ 2 q % 32) = 2 → pt (GB σ 1) (σ 2 q % 32) 0 ≠ 0; rw [gkd, gpt (by omega), pif_f nj, pif_f nj]; exact d
  · -- V12
    intro q hq hD h0
    obtain ⟨nF, hD⟩ := (gDB h (by omega)).mp hD
    have h0' : sn σ q ≠ 0 := h0
    obtain ⟨a, b, c, d⟩ := h12 q hq hD h0'
    have nj : ¬ Js σ (sn σ q % 32) := fun z => nF (J_named h z hq hD (Or.inr ⟨h0', rfl⟩)).1
    have nn := gN h nj b
    refine ⟨a, ?_, ?_, d⟩
    · show kd (GB σ 1) (sn σ q % 32) ≠ 0; rw [gkd, pif_f nj]; exact b
    · show im (GB σ 0) (sn σ q % 32) = 1; rw [gim a.2.2.2 nn]; exact c
  · intro q hq hD a b
    exact h13 q hq ((gDB h (by omega)).mp hD).2 a b
  · -- V14
    intro q hq e8
    show σ 2 q = 0
    have hv : app σ (Js σ) (Fs σ) (NN σ) 8 (q / 8) ≠ 0 := by have e8' : app σ (Js σ) (Fs σ) (NN σ) 8 (q / 8) = 2 := e8; rw [e8']; decide
    obtain ⟨o1, o2, o3⟩ := ap8_own h (by omega) hv
    have hDB := (ap8_DB h (by omega) o1 hv).mp e8
    have hb0 := hDB.1
    rcases hDB.2 with z | ⟨x, x1, x2, x3⟩
    · exact h14 q hq z
    · rcases o3 with z | ⟨i, k, i1, i2, i3, i4⟩
      · have := (h6 x 0 x1 (by omega) (by rw [x3]; exact hb0)).2
        rw [x3] at this; exact absurd this z
      · have := (hJ1 x i 0 k x1 i1 (by omega) i2 (by rw [x3]; exact hb0) (x3.trans i4.symm)).1
        subst this
        have := (JF_zero h).1 x i3 x2 (q % 8) (by omega) (by rw [x3]; exact hb0)
        rw [x3, show 8 * (q / 8) + q % 8 = q by omega] at this
        exact this
  · -- V15
    intro i h0 h1 hk
    obtain ⟨j, e⟩ := gJk hk
    rw [e] at hk
    have := h15 i h0 h1 hk
    have := gUn h (i := i)
    rw [glk]; omega
  · intro i h0 h1 hk
    refine Nat.le_trans (cn_mono (fun q hq z => ?_)) (h16 i h0 h1 hk)
    exact ⟨((gDB h (by omega)).mp z.1).2, z.2⟩
  · -- V17
    intro q hy
    obtain ⟨a, b, i, i1, i2, i3⟩ := h17 q hy
    have hq : q < 288 := hy.1
    have nj : ¬ Js σ i := fun z => by
      have := (JF_zero h).1 i z i2 (q % 8) (by omega) (by rw [i3]; exact b)
      rw [i3, show 8 * (q / 8) + q % 8 = q by omega] at this
      exact a.1 this
    exact ⟨a, b, i, i1, by rw [gkd, pif_f nj]; exact i2, by rw [gpt (by omega), pif_f nj]; exact i3⟩
  · -- V18
    intro i hi e
    obtain ⟨a, b⟩ := (g9_2 h hi).mp e
    rw [gim hi a]
    rcases b with b | b
    · refine ⟨by rw [gkd, pif_t b], ?_⟩
      obtain ⟨b1, b2, b3, b4⟩ := hJ0 i b
      by_cases z : UF σ (Fs σ) i = 0
      · exact hx i b1 b2 b3 (by omega)
      · obtain ⟨q, hq, q1, q2, q3⟩ := cn_pos.mp (Nat.pos_of_ne_zero z)
        have := (h12 q hq q2 q3.1).2.2.1
        rw [q3.2] at this; exact this
    · have := h18 i hi b
      refine ⟨?_, this.2⟩
      rw [gkd]
      by_cases j : Js σ i
      · rw [pif_t j]
      · rw [pif_f j]; exact this.1
  · intro i hi a b
    refine (g9_2 h hi).mpr ⟨fun q => b q.2.1, ?_⟩
    by_cases j : Js σ i
    · exact Or.inl j
    · rw [gkd, pif_f j] at a; exact Or.inr (h19 i hi a b)
  · -- V20
    intro i h0 h1 h2 hp hno hc
    obtain ⟨j, e⟩ := gJk (by rw [h2]; decide)
    rw [e] at h2
    rw [gpt (by omega), pif_f j] at hp hc
    have := h20 i h0 h1 h2 hp (fun q hq hD hm => ?_) hc
    · have := gUn h (i := i)
      rw [glk]; omega
    · by_cases z : Fs σ (q / 8)
      · have := (JF_zero h).2 (q / 8) z hD (q % 8) (by omega)
        rw [show 8 * (q / 8) + q % 8 = q by omega] at this
        exact hm.1 this
      · exact hno q hq ((gDB h (by omega)).mpr ⟨z, hD⟩) hm
theorem GB_Ins (h : Inw n σ) (h9 : V9 σ) : Ins (GB σ) := by
  refine ⟨fun i h0 h1 hk => ?_, fun b hb hv => ?_, fun i hi e => ?_, fun i hi => ?_⟩
  · obtain ⟨j, e⟩ := gJk hk
    rw [e] at hk
    rw [glk]
    refine Classical.byContradiction fun z => j ((Cl_s σ).1 i h0 h1 hk (by omega))
  · obtain ⟨o1, o2, o3⟩ := ap8_own h hb hv
    exact Classical.byContradiction fun z => o1 ((Cl_s σ).2 b (by have := o2.2; omega) hb z o3)
  · obtain ⟨a, b⟩ := (g9_2 h hi).mp e
    exact fun z => a ⟨hi, z, b⟩
  · rw [g9]
    by_cases a : NN σ i
    · rw [pif_t a]; exact Or.inl rfl
    · rw [pif_f a]
      by_cases b : Js σ i
      · rw [pif_t b]; exact Or.inr rfl
      · rw [pif_f b, pif_f (fun q => b ((Cl_s σ).1 i q.1 q.2.1 q.2.2.1 q.2.2.2))]; exact h9 i hi
theorem GB_Inv (hn : n ≤ 512) (h : Inw n σ) (h9 : V9 σ) (hx : Vx σ) : Inv n (GB σ) := ⟨hn, GB_Inw h hx, GB_Ins h h9⟩
end GBI
