-- giving back, the class
theorem cn_blk {R : Nat → Prop} {b m : Nat} (hb : b < m) : cn (fun q => q / 8 = b ∧ R (q % 8)) (8 * m) = cn R 8 := by
  have h0 : cn (fun q => q / 8 = b ∧ R (q % 8)) (8 * b) = 0 := cn_zero.mpr (fun k hk q => by have := q.1; omega)
  have h1 : ∀ k, k ≤ 8 → cn (fun q => q / 8 = b ∧ R (q % 8)) (8 * b + k) = cn R k := by
    intro k
    induction k with
    | zero => intro _; exact h0
    | succ k ih =>
      intro hk
      have := ih (by omega)
      have e1 : (8 * b + k) / 8 = b := by omega
      have e2 : (8 * b + k) % 8 = k := by omega
      by_cases r : R k
      · rw [show 8 * b + (k + 1) = 8 * b + k + 1 by omega, cn_t (P := fun q => q / 8 = b ∧ R (q % 8)) (by rw [e1, e2]; exact ⟨rfl, r⟩), cn_t r, this]
      · rw [show 8 * b + (k + 1) = 8 * b + k + 1 by omega, cn_f (P := fun q => q / 8 = b ∧ R (q % 8)) (by rw [e1, e2]; exact fun q => r q.2), cn_f r, this]
  rw [cn_skip (a := 8 * b + 8) (b := 8 * m) (by omega) (fun j h2 h3 q => by have := q.1; omega), h1 8 (Nat.le_refl _)]
-- entries of block b on the disk that name i, in the cells below c
noncomputable def gb (σ : St) (b i c : Nat) : Nat := cn (fun c' => nmD σ i (8 * b + c')) c
theorem UF_add {σ : St} {F : Nat → Prop} {b i : Nat} (hb : b < 36) (hD : DB σ b) (hF : ¬ F b) : UF σ (fun x => F x ∨ x = b) i = UF σ F i + gb σ b i 8 := by
  have e1 : cn (fun q => ((F (q / 8) ∨ q / 8 = b) ∧ DB σ (q / 8) ∧ nmD σ i q) ∧ q / 8 = b) 288 = gb σ b i 8 := by
    refine Eq.trans (cn_congr (fun q _ => ?_)) (cn_blk (R := fun c' => nmD σ i (8 * b + c')) (b := b) (m := 36) hb)
    exact ⟨fun ⟨⟨_, h2⟩, h3⟩ => ⟨h3, by rw [show 8 * b + q % 8 = q by omega]; exact h2.2⟩, fun ⟨h1, h2⟩ => ⟨⟨Or.inr h1, h1 ▸ hD, by rw [show 8 * b + q % 8 = q by omega] at h2; exact h2⟩, h1⟩⟩
  have e2 : cn (fun q => ((F (q / 8) ∨ q / 8 = b) ∧ DB σ (q / 8) ∧ nmD σ i q) ∧ ¬ q / 8 = b) 288 = UF σ F i :=
    cn_congr (fun q _ => ⟨fun ⟨⟨h1, h2⟩, h3⟩ => ⟨h1.resolve_right h3, h2⟩, fun ⟨h1, h2⟩ => ⟨⟨Or.inl h1, h2⟩, fun e => hF (e ▸ h1)⟩⟩)
  have e3 := cn_split (P := fun q => (F (q / 8) ∨ q / 8 = b) ∧ DB σ (q / 8) ∧ nmD σ i q) (R := fun q => q / 8 = b) (n := 288)
  rw [e1, e2] at e3
  exact e3.trans (Nat.add_comm _ _)
theorem UF_not {σ : St} {F : Nat → Prop} {b i : Nat} (hD : ¬ DB σ b) : UF σ (fun x => F x ∨ x = b) i = UF σ F i :=
  cn_congr (fun q _ => ⟨fun ⟨h1, h2, h3⟩ => ⟨h1.resolve_right (fun e => hD (e ▸ h2)), h2, h3⟩, fun ⟨h1, h2⟩ => ⟨Or.inl h1, h2⟩⟩)
-- the loop of the falls over the cells of a block
def tl (T : Nat → Nat) (g : Nat → Nat) : Nat → Nat := fun n => if n % 5 = 1 then T n - g (n / 5) else T n
noncomputable def ll (T L : Nat → Nat) (g : Nat → Nat) : Nat → Nat := fun i => pif (0 < g i ∧ lk T i ≤ g i) 1 (L i)
theorem tl_0 {T : Nat → Nat} : tl T (fun _ => 0) = T := by funext n; unfold tl; split <;> rfl
theorem ll_0 {T L : Nat → Nat} : ll T L (fun _ => 0) = L := by funext n; unfold ll; rw [pif_f (fun q => absurd q.1 (Nat.lt_irrefl _))]
theorem tl_lk {T g : Nat → Nat} {i : Nat} : lk (tl T g) i = lk T i - g i := by
  show tl T g (5 * i + 1) = _
  unfold tl
  rw [if_pos (by omega), show (5 * i + 1) / 5 = i by omega]
section FREE
variable {F : Nat} {σ : St} {T L M D : Nat → Nat} {b : Nat}
theorem cf_freeBlock_46 (hb : isD b) : s_V_freeBlock_46 F (zz (σ 5)) (zz (σ 6)) (nI b) (zz M) (zz T) (zz D) (zz L) = some (zz (up M (b / 12 * 16 + 4 + b % 12) 0), zz T, zz (up D b 0), zz L) := by
  unfold s_V_freeBlock_46
  rw [ga_e b rfl hb.1 (by decide), bd_e (cf_setBlockMark hb), nI_clamp (by have := hb.1; omega), zz_up]
theorem cf_freeBlock_12 (hb : isD b) (h6 : σ 6 b ≤ 1) (hv : ∀ c, c < 8 → sn σ (8 * b + c) ≠ 0 → ok (sn σ (8 * b + c))) (hl : ∀ i, 0 < i → i < 18 → gb σ b i 8 ≤ lk T i ∧ lk T i < 2 ^ 30) : ∀ (r c n : Nat), c + r = 8 → r < n → s_V_freeBlock_12 F (zz (σ 5)) (zz (σ 6)) n (nI b) (nI c) (zz M) (zz (tl T (fun i => gb σ b i c))) (zz D) (zz (ll T L (fun i => gb σ b i c))) = some (zz (up M (b / 12 * 16 + 4 + b % 12) 0), zz (tl T (fun i => gb σ b i 8)), zz (up D b 0), zz (ll T L (fun i => gb σ b i 8))) := by
  intro r
  induction r with
  | zero =>
    intro c n hc hn
    obtain ⟨n, rfl⟩ : ∃ q, n = q + 1 := ⟨n - 1, by omega⟩
    unfold s_V_freeBlock_12
    rw [if_pos (nI_le (by omega) (by omega)), cf_freeBlock_46 hb, show c = 8 by omega]
  | succ r ih =>
    intro c n hc hn
    obtain ⟨n, rfl⟩ : ∃ q, n = q + 1 := ⟨n - 1, by omega⟩
    have this := ih (c + 1) n (by omega) (by omega)
    unfold s_V_freeBlock_12
    rw [if_neg (nI_ge (by omega) (by omega)), bd_e (cf_word' hb.1 (by omega) h6), ← sn_sdw]
    by_cases h0 : sn σ (8 * b + c) = 0
    · rw [if_pos (by rw [h0]; rfl), nI_add]
      have e : (fun i => gb σ b i (c + 1)) = (fun i => gb σ b i c) := by
        funext i; exact cn_f (P := fun c' => nmD σ i (8 * b + c')) (fun q => q.1 h0)
      rw [e] at this; exact this
    · have hok := hv c (by omega) h0
      have hx0 := hok.2.2.1
      have hx18 := hok.2.2.2
      rw [if_neg (fun q => h0 ((nI0 (by have := hok.2.1; omega)).mp q)), pk_rem (by have := hok.2.1; omega) (by decide) (by decide)]
      generalize hx : sn σ (8 * b + c) % 32 = x at *
      have hs : ∀ i, gb σ b i (c + 1) = gb σ b i c + (if i = x then 1 else 0) := by
        intro i
        by_cases e : i = x
        · rw [if_pos e]; exact cn_t (P := fun c' => nmD σ i (8 * b + c')) ⟨h0, by rw [hx, e]⟩
        · rw [if_neg e]; exact cn_f (P := fun c' => nmD σ i (8 * b + c')) (fun q => e (by rw [← hx]; exact q.2.symm))
      obtain ⟨l1, l2⟩ := hl x hx0 hx18
      have hle : gb σ b x (c + 1) ≤ gb σ b x 8 := cn_up (by omega)
      have hsx := hs x
      rw [if_pos rfl] at hsx
      have hlk : lk (tl T (fun i => gb σ b i c)) x = lk T x - gb σ b x c := tl_lk
      rw [bd_e (cf_lowerLinks hx0 hx18 (by rw [hlk]; omega) (by rw [hlk]; omega)), hlk]
      show s_V_freeBlock_12 F (zz (σ 5)) (zz (σ 6)) n (nI b) (nI c + nI 1) (zz M) (zz (up (tl T (fun i => gb σ b i c)) (5 * x + 1) (lk T x - gb σ b x c - 1))) (zz D) _ = _
      have eT : up (tl T (fun i => gb σ b i c)) (5 * x + 1) (lk T x - gb σ b x c - 1) = tl T (fun i => gb σ b i (c + 1)) := by
        funext m
        by_cases e : m = 5 * x + 1
        · subst e
          rw [up_s]; unfold tl
          rw [if_pos (by omega), show (5 * x + 1) / 5 = x by omega]
          show lk T x - gb σ b x c - 1 = lk T x - gb σ b x (c + 1)
          omega
        · rw [up_n e]; unfold tl
          by_cases e1 : m % 5 = 1
          · rw [if_pos e1, if_pos e1]
            have := hs (m / 5)
            rw [if_neg (by omega)] at this
            show _ - gb σ b (m / 5) c = _ - gb σ b (m / 5) (c + 1)
            rw [this]; rfl
          · rw [if_neg e1, if_neg e1]
      have eL : (if lk T x - gb σ b x c = 1 then up (ll T L (fun i => gb σ b i c)) x 1 else ll T L (fun i => gb σ b i c)) = ll T L (fun i => gb σ b i (c + 1)) := by
        funext i
        by_cases e : i = x
        · subst e
          by_cases e1 : lk T i - gb σ b i c = 1
          · rw [if_pos e1, up_s]; unfold ll; rw [pif_t]; show 0 < gb σ b i (c + 1) ∧ lk T i ≤ gb σ b i (c + 1); omega
          · rw [if_neg e1]; unfold ll
            rw [pif_f, pif_f]
            · show ¬ (0 < gb σ b i (c + 1) ∧ lk T i ≤ gb σ b i (c + 1)); omega
            · show ¬ (0 < gb σ b i c ∧ lk T i ≤ gb σ b i c); omega
        · have := hs i
          rw [if_neg e, Nat.add_zero] at this
          have e2 : ll T L (fun i => gb σ b i (c + 1)) i = ll T L (fun i => gb σ b i c) i := by
            unfold ll; show pif (0 < gb σ b i (c + 1) ∧ lk T i ≤ gb σ b i (c + 1)) _ _ = _; rw [this]; rfl
          rw [e2]
          by_cases e1 : lk T x - gb σ b x c = 1
          · rw [if_pos e1, up_n e]
          · rw [if_neg e1]
      rw [eT, eL, nI_add]
      exact this
theorem cf_freeBlockV (hF : 8 < F) (hb : isD b) (hD : D b ≤ 2) (h6 : σ 6 b ≤ 1) (hv : D b = 2 → ∀ c, c < 8 → sn σ (8 * b + c) ≠ 0 → ok (sn σ (8 * b + c))) (hl : D b = 2 → ∀ i, 0 < i → i < 18 → gb σ b i 8 ≤ lk T i ∧ lk T i < 2 ^ 30) : s_V_freeBlock F (zz (σ 5)) (zz (σ 6)) (nI b) (zz M) (zz T) (zz D) (zz L) = some (zz (up M (b / 12 * 16 + 4 + b % 12) 0), zz (if D b = 2 then tl T (fun i => gb σ b i 8) else T), zz (up D b 0), zz (if D b = 2 then ll T L (fun i => gb σ b i 8) else L)) := by
  unfold s_V_freeBlock
  rw [gr_e b rfl hb.1 (by decide)]
  show (if nI (D b) = nI 2 then _ else _) = _
  by_cases h : D b = 2
  · rw [if_pos (by rw [h]), if_pos h, if_pos h]
    have := cf_freeBlock_12 (F := F) (T := T) (L := L) (M := M) (D := D) hb h6 (hv h) (hl h) 8 0 F rfl hF
    have e0 : (fun i => gb σ b i 0) = (fun _ => 0) := rfl
    rw [e0, tl_0, ll_0] at this
    exact this
  · rw [if_neg (fun q => h ((nI_eq (by omega) (by decide)).mp q)), if_neg h, if_neg h]
    exact cf_freeBlock_46 hb
end FREE
