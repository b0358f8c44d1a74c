-- what a write-back keeps, and how it comes nearer to alike
def oc (σ : St) (p : Nat) : Prop := kd (σ 1) (p / 8) = 2 ∧ pt (σ 1) (p / 8) 0 ≠ 0 ∧ σ 2 (8 * pt (σ 1) (p / 8) 0 + p % 8) = 0 ∧ sn σ (8 * pt (σ 1) (p / 8) 0 + p % 8) ≠ 0
noncomputable def muw (σ : St) : Nat := cn (fun m => σ 0 m ≠ 0) 48 + cn (oc σ) 144
def Frw (σ : St) (b : Nat) (σ' : St) : Prop := σ' 0 = σ 0 ∧ σ' 1 = σ 1 ∧ (∀ m, (m / 16 ≠ b / 12 ∨ b % 12 ≠ 0) → σ' 3 m = σ 3 m) ∧ (∀ m, (m / 30 ≠ b / 12 ∨ b % 12 ≠ 1) → σ' 4 m = σ 4 m) ∧ (∀ q, q / 8 ≠ b → σ' 5 q = σ 5 q) ∧ (∀ a, a ≠ b → σ' 6 a = σ 6 a) ∧ (∀ q, yb σ' q → yb σ q)
def A1 (σ : St) (b : Nat) : Prop := (b % 12 = 0 → σ 6 b = 0 ∧ ∀ c, c < 16 → σ 3 (b / 12 * 16 + c) = σ 0 (b / 12 * 16 + c)) ∧ (∀ i k, i < 18 → k < 3 → pt (σ 1) i k = b → b ≠ 0 → σ 6 b = 0 ∧ (kd (σ 1) i = 1 → ∀ c, c < 8 → σ 5 (8 * b + c) = σ 2 (8 * b + c)))
def A2 (σ : St) (b : Nat) : Prop := b % 12 = 1 → (∀ c, c < 30 → σ 4 (b / 12 * 30 + c) = σ 1 (b / 12 * 30 + c)) ∧ (∀ q, yb σ q → σ 2 q % 32 / 6 ≠ b / 12)
def A3 (σ : St) (b : Nat) : Prop := ∀ d, d < 18 → kd (σ 1) d = 2 → pt (σ 1) d 0 = b → b ≠ 0 → ∀ c, c < 8 → σ 2 (8 * b + c) ≠ 0 → sn σ (8 * b + c) = σ 2 (8 * b + c)
def A4 (σ : St) (b : Nat) : Prop := ∀ d, d < 18 → kd (σ 1) d = 2 → pt (σ 1) d 0 = b → b ≠ 0 → ∀ c, c < 8 → σ 2 (8 * b + c) = 0 → sn σ (8 * b + c) = 0
section SP
variable {n : Nat} {σ σ' τ : St} {b : Nat}
theorem mu_192 : muw σ ≤ 192 := by
  have := cn_le (P := fun m => σ 0 m ≠ 0) (n := 48)
  have := cn_le (P := oc σ) (n := 144)
  unfold muw; omega
theorem mu_ok (h0 : ∀ m, m < 48 → σ' 0 m ≠ 0 → σ 0 m ≠ 0) (h1 : ∀ p, p < 144 → oc σ' p → oc σ p) : muw σ' ≤ muw σ ∧ (muw σ' = muw σ → (∀ m, m < 48 → σ 0 m ≠ 0 → σ' 0 m ≠ 0) ∧ (∀ p, p < 144 → oc σ p → oc σ' p)) := by
  have a := cn_mono (P := fun m => σ' 0 m ≠ 0) (Q := fun m => σ 0 m ≠ 0) h0
  have b := cn_mono (P := oc σ') (Q := oc σ) h1
  unfold muw
  refine ⟨by omega, fun e => ⟨cn_eq (P := fun m => σ' 0 m ≠ 0) (Q := fun m => σ 0 m ≠ 0) h0 (by omega), cn_eq (P := oc σ') (Q := oc σ) h1 (by omega)⟩⟩
theorem gb0 {m : Nat} (z : GB τ 0 m ≠ 0) : τ 0 m ≠ 0 := by
  have z' : pif ((m % 16 < 6 ∧ NN τ (m / 16 * 6 + m % 16)) ∨ (¬ m % 16 < 6 ∧ Fs τ (m / 16 * 12 + (m % 16 - 4)))) 0 (τ 0 m) ≠ 0 := z
  by_cases w : (m % 16 < 6 ∧ NN τ (m / 16 * 6 + m % 16)) ∨ (¬ m % 16 < 6 ∧ Fs τ (m / 16 * 12 + (m % 16 - 4)))
  · rw [pif_t w] at z'; exact absurd rfl z'
  · rw [pif_f w] at z'; exact z'
theorem GB_quiet (h : Inw n τ) (hL : VL (τ 1)) (h9 : V9 τ) (hq : ∀ m, m < 48 → τ 0 m ≠ 0 → GB τ 0 m ≠ 0) : GB τ = τ := by
  have hF : ∀ a, ¬ Fs τ a := by
    intro a z
    obtain ⟨z1, z2, z3, z4⟩ := GI_s.2.1 a z
    have hD : isD a ∧ bm (τ 0) a = 1 := by
      rcases z4 with w | ⟨i, k, w1, w2, w3, w4⟩
      · exact Inw_V7 h a z2 w
      · have p0 : pt (τ 1) i k ≠ 0 := by rw [w4]; omega
        have := ((h.1.1 i w1).2.1 k w2).resolve_left p0
        have e := (Inw_V6 h i k w1 w2 p0).1
        rw [w4] at this e; exact ⟨this, e⟩
    obtain ⟨⟨d1, d2⟩, d3⟩ := hD
    have := hq (a / 12 * 16 + 4 + a % 12) (by omega) (by show bm (τ 0) a ≠ 0; rw [d3]; decide)
    refine this ?_
    show pif (((a / 12 * 16 + 4 + a % 12) % 16 < 6 ∧ NN τ ((a / 12 * 16 + 4 + a % 12) / 16 * 6 + (a / 12 * 16 + 4 + a % 12) % 16)) ∨ (¬ (a / 12 * 16 + 4 + a % 12) % 16 < 6 ∧ Fs τ ((a / 12 * 16 + 4 + a % 12) / 16 * 12 + ((a / 12 * 16 + 4 + a % 12) % 16 - 4)))) 0 _ = 0
    rw [pif_t]
    right
    rw [show (a / 12 * 16 + 4 + a % 12) / 16 * 12 + ((a / 12 * 16 + 4 + a % 12) % 16 - 4) = a by omega]
    exact ⟨by omega, z⟩
  refine GB_id h ⟨hL, fun a ha z => ?_, fun i hi z => ?_, h9⟩
  · refine Classical.byContradiction fun w => hF a ((Cl_s τ).2 a ?_ ha w (Or.inl z))
    have := (Inw_V7 h a ha z).1.2
    exact Nat.pos_of_ne_zero (fun y => by rw [y] at this; omega)
  · intro k4
    have im1 := (Inw_V18 h i hi z).2
    refine hq (i / 6 * 16 + i % 6) (by omega) (by show im (τ 0) i ≠ 0; rw [im1]; decide) ?_
    show pif (((i / 6 * 16 + i % 6) % 16 < 6 ∧ NN τ ((i / 6 * 16 + i % 6) / 16 * 6 + (i / 6 * 16 + i % 6) % 16)) ∨ (¬ (i / 6 * 16 + i % 6) % 16 < 6 ∧ Fs τ ((i / 6 * 16 + i % 6) / 16 * 12 + ((i / 6 * 16 + i % 6) % 16 - 4)))) 0 _ = 0
    rw [pif_t]
    left
    rw [show (i / 6 * 16 + i % 6) / 16 * 6 + (i / 6 * 16 + i % 6) % 16 = i by omega]
    exact ⟨by omega, hi, k4, Or.inr z⟩
theorem Kp_GB {τ : St} (h2 : τ 2 = σ 2) (h1 : ∀ m, m % 5 ≠ 1 → τ 1 m = σ 1 m) : Kp σ (GB τ) := by
  refine ⟨h2, fun i _ => ?_⟩
  by_cases j : Js τ i
  · right; rw [gkd, pif_t j]
  · left
    refine ⟨?_, fun k hk => ?_⟩
    · rw [gkd, pif_f j]; exact h1 (5 * i) (by omega)
    · rw [gpt hk, pif_f j]; exact h1 (5 * i + 2 + k) (by omega)
theorem Kp_tr {ω : St} (h1 : Kp σ σ') (h2 : Kp σ' ω) : Kp σ ω := by
  refine ⟨h2.1.trans h1.1, fun i hi => ?_⟩
  rcases h2.2 i hi with ⟨a, b⟩ | a
  · rcases h1.2 i hi with ⟨c, d⟩ | c
    · exact Or.inl ⟨a.trans c, fun k hk => (b k hk).trans (d k hk)⟩
    · exact Or.inr (a.trans c)
  · exact Or.inr a
theorem wb_step (hI : Inv n σ) (hb : b < 36) (hW : WBr n σ b σ') : σ' 2 = σ 2 ∧ σ' 10 = σ 10 ∧ Kp σ σ' ∧ muw σ' ≤ muw σ ∧ (muw σ' = muw σ → Frw σ b σ' ∧ A1 σ' b ∧ ((∀ a, a < 36 → A1 σ a) → A2 σ' b) ∧ ((∀ a, a < 36 → A1 σ a) → (∀ a, a < 36 → A2 σ a) → A3 σ' b) ∧ ((∀ a, a < 36 → A2 σ a) → (∀ a, a < 36 → A3 σ a) → A4 σ' b)) := by
  have h := hI.2.1
  have hX := h.1.1
  have h5 := Inw_V5 h
  have hDp : ∀ i k, i < 18 → k < 3 → pt (σ 1) i k ≠ 0 → isD (pt (σ 1) i k) := fun i k hi hk z => ((hX i hi).2.1 k hk).resolve_left z
  rcases hW with ⟨b1, nD, rfl⟩ | ⟨b1, rfl⟩ | ⟨d, τ, hD, hd, k2, hp, hL, hG, rfl⟩ | ⟨hD, no, rfl⟩
  · -- a copy
    obtain ⟨m1, -⟩ := mu_ok (σ := σ) (σ' := cbS σ b) (fun _ _ z => z) (fun p hp ⟨a, c, d, e⟩ => ⟨a, c, d, by
      rw [cb_sn] at e
      · exact e
      · intro z
        have z' : (8 * pt (σ 1) (p / 8) 0 + p % 8) / 8 = b := z
        refine nD ?_
        rw [← z', show (8 * pt (σ 1) (p / 8) 0 + p % 8) / 8 = pt (σ 1) (p / 8) 0 by omega]
        exact DBm (by omega) a c⟩)
    refine ⟨rfl, rfl, ⟨rfl, fun i _ => Or.inl ⟨rfl, fun _ _ => rfl⟩⟩, m1, fun _ => ⟨⟨rfl, rfl, fun m hm => ?_, fun _ _ => rfl, fun q hq => cb_5n hq, fun a ha => by rw [cb_6, if_neg ha], fun _ z => z⟩, ⟨fun z => ⟨by rw [cb_6, if_pos rfl], fun c hc => ?_⟩, fun i k hi hk he b0 => ⟨by rw [cb_6, if_pos rfl], fun k1 c hc => ?_⟩⟩, fun _ z => absurd z b1, fun _ _ d hd k2 he b0 => ?_, fun _ _ d hd k2 he b0 => ?_⟩⟩
    · show (if b % 12 = 0 then cp (σ 3) (σ 0) (b / 12 * 16) 16 else σ 3) m = _
      by_cases z : b % 12 = 0
      · rw [if_pos z]; unfold cp; rw [if_neg (by omega)]
      · rw [if_neg z]
    · show (if b % 12 = 0 then cp (σ 3) (σ 0) (b / 12 * 16) 16 else σ 3) _ = σ 0 _
      rw [if_pos z]; unfold cp; rw [if_pos (by omega)]
    · have he' : pt (σ 1) i k = b := he
      have := hDp i k hi hk (by rw [he']; exact b0)
      rw [he'] at this
      show (if b % 12 = 0 then σ 5 else cp (σ 5) (σ 2) (8 * b) 8) _ = σ 2 _
      rw [if_neg (by have := this.2; omega)]; unfold cp; rw [if_pos (by omega)]
    · exact absurd ⟨b0, Or.inr ⟨d, hd, k2, he⟩⟩ nD
    · exact absurd ⟨b0, Or.inr ⟨d, hd, k2, he⟩⟩ nD
  · -- a table
    have hg : b / 12 < 3 := by omega
    obtain ⟨w1, w2, w3, w4⟩ := tb_Inw hI hg
    obtain ⟨m1, m2⟩ := mu_ok (σ := σ) (σ' := GB (tbS σ (b / 12))) (fun m _ z => gb0 (τ := tbS σ (b / 12)) z) (fun p hp ⟨a, c, d, e⟩ => by
      obtain ⟨j, ek⟩ := gJk (show kd (GB (tbS σ (b / 12)) 1) (p / 8) ≠ 0 by rw [a]; decide)
      have ep : pt (GB (tbS σ (b / 12)) 1) (p / 8) 0 = pt (σ 1) (p / 8) 0 := by rw [gpt (by omega), pif_f j]; rfl
      rw [ep] at c d e
      exact ⟨by rw [← show kd (GB (tbS σ (b / 12)) 1) (p / 8) = kd (σ 1) (p / 8) from ek]; exact a, c, d, e⟩)
    refine ⟨rfl, rfl, Kp_GB rfl (fun _ _ => rfl), m1, fun e => ?_⟩
    rw [GB_quiet w1 w3 w2 (fun m hm z => (m2 e).1 m hm z)]
    have noown : ∀ i k, i < 18 → k < 3 → pt (σ 1) i k = b → b ≠ 0 → False := fun i k hi hk he b0 => by
      have := hDp i k hi hk (by rw [he]; exact b0)
      rw [he] at this; have := this.2; omega
    refine ⟨⟨rfl, rfl, fun _ _ => rfl, fun m hm => ?_, fun _ _ => rfl, fun _ _ => rfl, fun q z => ((tb_yb h5).mp z).1⟩, ⟨fun z => by omega, fun i k hi hk he b0 => (noown i k hi hk he b0).elim⟩, fun hA _ => ⟨fun c hc => ?_, fun q z => ((tb_yb h5).mp z).2⟩, fun _ _ d hd k2 he b0 => (noown d 0 hd (by omega) he b0).elim, fun _ _ d hd k2 he b0 => (noown d 0 hd (by omega) he b0).elim⟩
    · show tb4 σ (b / 12) 30 m = _
      unfold tb4
      rw [pif_f]; rintro ⟨x, y, _⟩
      rcases hm with z | z
      · omega
      · exact z b1
    · show tb4 σ (b / 12) 30 (b / 12 * 30 + c) = σ 1 (b / 12 * 30 + c)
      unfold tb4
      rw [pif_t]
      refine ⟨by omega, by omega, ?_⟩
      rintro ⟨x1, x2, x3, x4⟩
      have hi : 6 * (b / 12) + c / 5 < 18 := by omega
      have hk3 : c % 5 - 2 < 3 := by omega
      have ei : 5 * (6 * (b / 12) + c / 5) + 2 + (c % 5 - 2) = b / 12 * 30 + c := by omega
      have hv : pt (σ 1) (6 * (b / 12) + c / 5) (c % 5 - 2) = σ 1 (b / 12 * 30 + c) := by
        show σ 1 _ = _; rw [ei]
      generalize σ 1 (b / 12 * 30 + c) = v at *
      have v0 : pt (σ 1) (6 * (b / 12) + c / 5) (c % 5 - 2) ≠ 0 := by rw [hv]; exact x2
      have hDv := hDp _ _ hi hk3 v0
      have m6 := (Inw_V6 h _ _ hi hk3 v0).1
      rw [hv] at hDv m6
      obtain ⟨d1, d2⟩ := hDv
      rcases x4 with y | y
      · have a := ((hA (12 * (v / 12)) (by omega)).1 (by omega)).2 (4 + v % 12) (by omega)
        rw [show 12 * (v / 12) / 12 * 16 + (4 + v % 12) = v / 12 * 16 + 4 + v % 12 by omega] at a
        have a' : bm (σ 3) v = bm (σ 0) v := a
        omega
      · exact y ((hA v d1).2 _ _ hi hk3 hv x2).1
  · -- a directory
    have hb2 := hD.2
    have b0 : b ≠ 0 := by intro z; rw [z] at hb2; omega
    obtain ⟨l1, l2, l3, l4, l5⟩ := id hL
    have t0 : τ 0 = σ 0 := l1 0 (by decide) (by decide)
    have t2 : τ 2 = σ 2 := l1 2 (by decide) (by decide)
    have t3 : τ 3 = σ 3 := l1 3 (by decide) (by decide)
    have t4 : τ 4 = σ 4 := l1 4 (by decide) (by decide)
    have t7 : τ 7 = σ 7 := l1 7 (by decide) (by decide)
    have t10 : τ 10 = σ 10 := l1 10 (by decide) (by decide)
    have t6 : τ 6 = fcSw σ b 6 := l1 6 (by decide) (by decide)
    have ek : ∀ i, kd (τ 1) i = kd (σ 1) i := fun i => l2 (5 * i) (by omega)
    have ep : ∀ i k, k < 3 → pt (τ 1) i k = pt (σ 1) i k := fun i k hk => l2 (5 * i + 2 + k) (by omega)
    have sb : ∀ q, q / 8 = b → sn τ q = τ 5 q := fun q e => by
      unfold sn; rw [t6, fc_6, if_pos e, if_pos rfl]
    have sn' : ∀ q, q / 8 ≠ b → sn τ q = sn σ q := fun q e => by
      unfold sn; rw [t6, fc_6, if_neg e, l3 q (Or.inl e), fc_5n e]
    obtain ⟨m1, m2⟩ := mu_ok (σ := σ) (σ' := GB τ) (fun m _ z => by rw [← t0]; exact gb0 z) (fun p hp' ⟨a, c, e, f⟩ => by
      obtain ⟨j, ekk⟩ := gJk (show kd (GB τ 1) (p / 8) ≠ 0 by rw [a]; decide)
      have epp : pt (GB τ 1) (p / 8) 0 = pt (σ 1) (p / 8) 0 := by rw [gpt (by omega), pif_f j]; exact ep _ 0 (by omega)
      rw [epp] at c e f
      have e' : σ 2 (8 * pt (σ 1) (p / 8) 0 + p % 8) = 0 := by rw [← t2]; exact e
      have f' : sn τ (8 * pt (σ 1) (p / 8) 0 + p % 8) ≠ 0 := f
      refine ⟨by rw [← ek, ← ekk]; exact a, c, e', ?_⟩
      by_cases z : (8 * pt (σ 1) (p / 8) 0 + p % 8) / 8 = b
      · rw [sb _ z] at f'
        rcases l4 _ z with y | ⟨y, -⟩
        · rw [y] at f'; exact absurd e' f'
        · rw [y, fc_5b z] at f'; exact f'
      · rw [sn' _ z] at f'; exact f')
    refine ⟨t2, t10, Kp_GB t2 (fun m hm => l2 m hm), m1, fun e => ?_⟩
    have hq : τ 1 = σ 1 := by
      refine l5 (fun q hq h0 => Classical.byContradiction fun z => ?_)
      have h0' : σ 2 q = 0 := h0
      have y0 : τ 5 q = 0 := by
        rcases l4 q hq with y | ⟨y, -⟩
        · rw [y]; exact h0
        · exact absurd y z
      have s0 : sn σ q ≠ 0 := by
        rw [← fc_5b (σ := σ) hq]; intro w; exact z (by rw [y0, w])
      have q8 : 8 * b + q % 8 = q := by omega
      obtain ⟨x1, x2, x3, x4⟩ := (m2 e).2 (8 * d + q % 8) (by omega) ⟨by rw [show (8 * d + q % 8) / 8 = d by omega]; exact k2, by rw [show (8 * d + q % 8) / 8 = d by omega, hp]; exact b0, by rw [show (8 * d + q % 8) / 8 = d by omega, show (8 * d + q % 8) % 8 = q % 8 by omega, hp, q8]; exact h0', by rw [show (8 * d + q % 8) / 8 = d by omega, show (8 * d + q % 8) % 8 = q % 8 by omega, hp, q8]; exact s0⟩
      rw [show (8 * d + q % 8) / 8 = d by omega] at x1 x4
      rw [show (8 * d + q % 8) % 8 = q % 8 by omega] at x4
      obtain ⟨j, -⟩ := gJk (show kd (GB τ 1) d ≠ 0 by rw [x1]; decide)
      rw [show pt (GB τ 1) d 0 = b by rw [gpt (by omega), pif_f j, ep d 0 (by omega), hp], q8] at x4
      have x4' : sn τ q ≠ 0 := x4
      rw [sb q hq] at x4'
      exact x4' y0
    have hid : GB τ = τ := GB_id hG.1 ⟨by rw [hq]; exact hI.2.2.1, hG.2.2.1, hG.2.2.2.1, hG.2.1⟩
    rw [hid]
    have own : ∀ i k, i < 18 → k < 3 → pt (σ 1) i k = b → i = d := fun i k hi hk he => (h.2.2.1.1 i d k 0 hi hd hk (by omega) (by rw [he]; exact b0) (he.trans hp.symm)).1
    refine ⟨⟨t0, hq, fun _ _ => by rw [t3], fun _ _ => by rw [t4], fun q z => by rw [l3 q (Or.inl z), fc_5n z], fun a ha => by rw [t6, fc_6, if_neg ha], fun q z => ?_⟩, ⟨fun z => by omega, fun i k hi hk he _ => ⟨by rw [t6, fc_6, if_pos rfl], fun k1 => ?_⟩⟩, fun _ z => by omega, fun hA1 hA2 d' hd' k2' he' _ c hc h0 => ?_, fun hA2 hA3 d' hd' k2' he' _ c hc h0 => ?_⟩
    · unfold yb at z ⊢; rw [t7] at z; exact z
    · rw [hq] at he k1
      rw [own i k hi hk he] at k1; omega
    · rw [sb _ (by omega), t2]
      rw [t2] at h0
      rcases l4 (8 * b + c) (by omega) with y | ⟨-, y⟩
      · exact y
      · exfalso
        have hE : Ea σ (8 * b + c) := (y (by omega)).1 h0
        have hDB : DB σ ((8 * b + c) / 8) := by rw [show (8 * b + c) / 8 = b by omega]; exact ⟨b0, Or.inr ⟨d, hd, k2, hp⟩⟩
        obtain ⟨y1, y2, y3, y4, y5⟩ := Inw_V11 h (8 * b + c) (by omega) hDB h0
        have i18 := y1.2.2.2
        generalize hi : σ 2 (8 * b + c) % 32 = i at *
        rcases hE with w | w | ⟨w1, w2⟩
        · have := (hA2 (12 * (i / 6) + 1) (by omega) (by omega)).2 _ w
          rw [hi] at this; omega
        · rw [hi] at w
          have a := ((hA1 (12 * (i / 6)) (by omega)).1 (by omega)).2 (i % 6) (by omega)
          rw [show 12 * (i / 6) / 12 * 16 + i % 6 = i / 6 * 16 + i % 6 by omega] at a
          have a' : im (σ 3) i = im (σ 0) i := a
          omega
        · rw [hi] at w1 w2
          have a := (hA2 (12 * (i / 6) + 1) (by omega) (by omega)).1 (5 * (i % 6) + 2) (by omega)
          rw [show (12 * (i / 6) + 1) / 12 * 30 + (5 * (i % 6) + 2) = 5 * i + 2 + 0 by omega] at a
          have a' : pt (σ 4) i 0 = pt (σ 1) i 0 := a
          exact y4 w1 (by rw [← a']; exact w2)
    · rw [sb _ (by omega)]
      rw [t2] at h0
      rcases l4 (8 * b + c) (by omega) with y | ⟨-, y⟩
      · rw [y]; exact h0
      · exfalso
        refine (y (by omega)).2 h0 ⟨fun x hx kx => ?_, fun x c' hx hc' kx px w => ?_⟩
        · have a := (hA2 (12 * (x / 6) + 1) (by omega) (by omega)).1 (5 * (x % 6)) (by omega)
          rw [show (12 * (x / 6) + 1) / 12 * 30 + 5 * (x % 6) = 5 * x by omega] at a
          have a2 := (hA2 (12 * (x / 6) + 1) (by omega) (by omega)).1 (5 * (x % 6) + 2) (by omega)
          rw [show (12 * (x / 6) + 1) / 12 * 30 + (5 * (x % 6) + 2) = 5 * x + 2 + 0 by omega] at a2
          exact ⟨a.trans kx, a2⟩
        · rw [fc_sn]
          exact hA3 _ (hDp x 0 hx (by omega) px).1 x hx kx rfl px c' hc' w
  · have hb2 := hD.2
    refine ⟨rfl, rfl, ⟨rfl, fun i _ => Or.inl ⟨rfl, fun _ _ => rfl⟩⟩, Nat.le_refl _, fun _ => ⟨⟨rfl, rfl, fun _ _ => rfl, fun _ _ => rfl, fun _ _ => rfl, fun _ _ => rfl, fun _ z => z⟩, ⟨fun z => by omega, fun i k hi hk he _ => absurd he (no i k hi hk)⟩, fun _ z => by omega, fun _ _ d hd _ he => absurd he (no d 0 hd (by omega)), fun _ _ d hd _ he => absurd he (no d 0 hd (by omega))⟩⟩
-- the other blocks stay as they are
theorem Fr_A1 {a : Nat} (hF : Frw σ b σ') (h2 : σ' 2 = σ 2) (hab : a ≠ b) (h : A1 σ a) : A1 σ' a := by
  obtain ⟨f0, f1, f3, f4, f5, f6, f7⟩ := hF
  refine ⟨fun z => ⟨by rw [f6 a hab]; exact (h.1 z).1, fun c hc => ?_⟩, fun i k hi hk he a0 => ?_⟩
  · rw [f0, f3 _ (by omega)]; exact (h.1 z).2 c hc
  · rw [f1] at he ⊢
    obtain ⟨x, y⟩ := h.2 i k hi hk he a0
    exact ⟨by rw [f6 a hab]; exact x, fun w c hc => by rw [h2, f5 _ (by omega)]; exact y w c hc⟩
theorem Fr_A2 {a : Nat} (hF : Frw σ b σ') (h2 : σ' 2 = σ 2) (hab : a ≠ b) (h : A2 σ a) : A2 σ' a := by
  obtain ⟨f0, f1, f3, f4, f5, f6, f7⟩ := hF
  intro z
  refine ⟨fun c hc => ?_, fun q y => by rw [h2]; exact (h z).2 q (f7 q y)⟩
  rw [f1, f4 _ (by omega)]; exact (h z).1 c hc
theorem Fr_sn (hF : Frw σ b σ') {q : Nat} (hq : q / 8 ≠ b) : sn σ' q = sn σ q := by
  obtain ⟨f0, f1, f3, f4, f5, f6, f7⟩ := hF
  unfold sn; rw [f6 _ hq, f5 _ hq]
theorem Fr_A3 {a : Nat} (hF : Frw σ b σ') (h2 : σ' 2 = σ 2) (hab : a ≠ b) (h : A3 σ a) : A3 σ' a := by
  intro d hd k2 he a0 c hc w
  rw [Fr_sn hF (by omega), h2]
  rw [hF.2.1] at k2 he
  rw [h2] at w
  exact h d hd k2 he a0 c hc w
theorem Fr_A4 {a : Nat} (hF : Frw σ b σ') (h2 : σ' 2 = σ 2) (hab : a ≠ b) (h : A4 σ a) : A4 σ' a := by
  intro d hd k2 he a0 c hc w
  rw [Fr_sn hF (by omega)]
  rw [hF.2.1] at k2 he
  rw [h2] at w
  exact h d hd k2 he a0 c hc w
end SP
