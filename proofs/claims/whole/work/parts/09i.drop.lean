-- dropping pointers, falls
def dT (T : Nat → Nat) (i m k : Nat) : Nat → Nat := fun n => if n / 5 = i ∧ 2 + m ≤ n % 5 ∧ n % 5 < 2 + k then 0 else T n
noncomputable def dD (T D : Nat → Nat) (i m k : Nat) : Nat → Nat := fun b => pif (b ≠ 0 ∧ ∃ k', m ≤ k' ∧ k' < k ∧ pt T i k' = b) (kd T i) (D b)
theorem dT_0 {T : Nat → Nat} {i m : Nat} : dT T i m m = T := by funext n; unfold dT; rw [if_neg (by omega)]
theorem dD_0 {T D : Nat → Nat} {i m : Nat} : dD T D i m m = D := by funext b; unfold dD; rw [pif_f (fun ⟨_, k, h1, h2, _⟩ => by omega)]
theorem dT_s {T : Nat → Nat} {i m k : Nat} (hm : m ≤ k) (hk : k < 3) : up (dT T i m k) (5 * i + 2 + k) 0 = dT T i m (k + 1) := by
  funext n
  by_cases e : n = 5 * i + 2 + k
  · subst e; rw [up_s]; unfold dT; rw [if_pos (by omega)]
  · rw [up_n e]; unfold dT
    by_cases h : n / 5 = i ∧ 2 + m ≤ n % 5 ∧ n % 5 < 2 + k
    · rw [if_pos h, if_pos (by omega)]
    · rw [if_neg h, if_neg (by omega)]
theorem dT_z {T : Nat → Nat} {i m k : Nat} (h0 : pt T i k = 0) : dT T i m (k + 1) = dT T i m k := by
  funext n
  unfold dT
  by_cases h : n / 5 = i ∧ 2 + m ≤ n % 5 ∧ n % 5 < 2 + k
  · rw [if_pos h, if_pos (by omega)]
  · rw [if_neg h]
    by_cases h' : n / 5 = i ∧ 2 + m ≤ n % 5 ∧ n % 5 < 2 + (k + 1)
    · rw [if_pos h', show n = 5 * i + 2 + k by omega]; exact h0.symm
    · rw [if_neg h']
theorem dT_at {T : Nat → Nat} {i m k j : Nat} (h : k ≤ j) (hj : j < 3) : pt (dT T i m k) i j = pt T i j := by
  show dT T i m k (5 * i + 2 + j) = _
  unfold dT; rw [if_neg (by omega)]
theorem dT_kd {T : Nat → Nat} {i m k j : Nat} : kd (dT T i m k) j = kd T j := by
  show dT T i m k (5 * j) = _
  unfold dT; rw [if_neg (by omega)]
theorem dD_s {T D : Nat → Nat} {i m k : Nat} (hm : m ≤ k) (h0 : pt T i k ≠ 0) : up (dD T D i m k) (pt T i k) (kd T i) = dD T D i m (k + 1) := by
  funext b
  by_cases e : b = pt T i k
  · subst e; rw [up_s]; unfold dD; rw [pif_t ⟨h0, k, hm, by omega, rfl⟩]
  · rw [up_n e]; unfold dD
    refine pif_congr (and_congr_right' ⟨fun ⟨k', a, b, c⟩ => ⟨k', a, by omega, c⟩, fun ⟨k', a, b, c⟩ => ⟨k', a, ?_, c⟩⟩)
    by_cases ek : k' = k
    · subst ek; exact absurd c.symm e
    · omega
theorem dD_z {T D : Nat → Nat} {i m k : Nat} (h0 : pt T i k = 0) : dD T D i m (k + 1) = dD T D i m k := by
  funext b
  unfold dD
  refine pif_congr ⟨fun ⟨z, k', a, b, c⟩ => ⟨z, k', a, ?_, c⟩, fun ⟨z, k', a, b, c⟩ => ⟨z, k', a, by omega, c⟩⟩
  by_cases ek : k' = k
  · subst ek; exact absurd (c.symm.trans h0) z
  · omega
theorem cf_dropPointers_5 {F : Nat} {T D : Nat → Nat} {i m : Nat} (hT : VT T) (hi : i < 18) : ∀ (r k n : Nat), k + r = 3 → r < n → m ≤ k → s_V_dropPointers_5 F n (nI i) (nI (cn (fun k' => m ≤ k' ∧ pt T i k' ≠ 0) k)) (nI k) (zz (dT T i m k)) (zz (dD T D i m k)) = some (nI (cn (fun k' => m ≤ k' ∧ pt T i k' ≠ 0) 3), zz (dT T i m 3), zz (dD T D i m 3)) := by
  intro r
  induction r with
  | zero =>
    intro k n hk hn hm
    obtain ⟨n, rfl⟩ : ∃ q, n = q + 1 := ⟨n - 1, by omega⟩
    unfold s_V_dropPointers_5
    rw [if_pos (nI_le (by omega) (by omega)), show k = 3 by omega]
  | succ r ih =>
    intro k n hk hn hm
    obtain ⟨n, rfl⟩ : ∃ q, n = q + 1 := ⟨n - 1, by omega⟩
    have hp := VT_p hT hi (k := k) (by omega)
    have := ih (k + 1) n (by omega) (by omega) (by omega)
    unfold s_V_dropPointers_5
    rw [if_neg (nI_ge (by omega) (by omega)), bd_e (cf_pointer hi (by omega)), dT_at (Nat.le_refl _) (by omega)]
    by_cases h0 : pt T i k = 0
    · rw [if_pos (by rw [h0]; rfl), nI_add]
      rw [cn_f (P := fun k' => m ≤ k' ∧ pt T i k' ≠ 0) (fun q => q.2 h0), dT_z h0, dD_z h0] at this
      exact this
    · rw [if_neg (fun q => h0 ((nI0 (by omega)).mp q)), bd_e (cf_kind hi), dT_kd, ga_e _ rfl hp (by decide), bd_e (cf_setPointer hi (by omega)), nI_clamp (by omega), zz_up, dT_s hm (by omega), dD_s hm h0, nI_add, nI_add]
      rw [cn_t (P := fun k' => m ≤ k' ∧ pt T i k' ≠ 0) ⟨hm, h0⟩] at this
      exact this
theorem cf_dropPointers {F : Nat} {T D : Nat → Nat} {i m : Nat} (hF : 3 < F) (hT : VT T) (hi : i < 18) (hm : m ≤ 3) : s_V_dropPointers F (nI i) (nI m) (zz T) (zz D) = some (nI (cn (fun k' => m ≤ k' ∧ pt T i k' ≠ 0) 3), zz (dT T i m 3), zz (dD T D i m 3)) := by
  have := cf_dropPointers_5 (F := F) (T := T) (D := D) (m := m) hT hi (3 - m) m F (by omega) (by omega) (Nat.le_refl _)
  rw [cn_zero.mpr (fun k hk q => by have := q.1; omega), dT_0, dD_0] at this
  exact this
-- the reference's drop
theorem cf_drop {A T W D : Nat → Nat} {i k : Nat} (hT : VT T) (hi : i < 18) (hk : k < 3) (h1 : pt T i k ≠ 0 → kd T i = 1 ∨ kd T i = 2) : s_R_drop (nI i) (nI k) (zz D) (zz (rM A T W)) = some (if pt T i k = 0 then (nI 0, zz D, zz (rM A T W)) else (nI 1, zz (up D (pt T i k) (kd T i)), zz (rM A (up T (5 * i + 2 + k) 0) W))) := by
  have hp := VT_p hT hi hk
  have e0 : T (5 * i + (2 + k)) = pt T i k := by show _ = T (5 * i + 2 + k); congr 1; omega
  have e1 : T (5 * i + 0) = kd T i := rfl
  unfold s_R_drop s_R_drop_43
  rw [nI_add, bd_e (cf_at hi (by omega)), rd_t hi (by omega), e0]
  by_cases h0 : pt T i k = 0
  · rw [if_pos (by rw [h0]; rfl), if_pos h0]
  · rw [if_neg (fun q => h0 ((nI0 (by omega)).mp q)), if_neg h0, bd_e (cf_at hi (by omega)), rd_t hi (by omega), e1]
    have fin : ∀ t : Nat, ga 36 (nI (pt T i k)) (bd (s_R_at (nI i) (nI (2 + k))) (fun r52 => ga 1080 r52 (some ((nI 1), (upd (zz D) (nI (pt T i k)).toNatClampNeg (nI t)), (upd (zz (rM A T W)) r52.toNatClampNeg (nI 0)))))) = some (nI 1, zz (up D (pt T i k) t), zz (rM A (up T (5 * i + 2 + k) 0) W)) := by
      intro t
      rw [ga_e _ rfl hp (by decide), nI_clamp (by omega), bd_e (cf_at hi (by omega)), ga_e _ rfl (by omega) (by decide), nI_clamp (by omega), zz_up, zz_up, up_t hi (by omega), show 5 * i + (2 + k) = 5 * i + 2 + k by omega]
    rcases h1 h0 with e | e
    · rw [if_neg (by rw [e]; decide), e]; exact fin 1
    · rw [if_pos (by rw [e]), e]; exact fin 2
-- lowering LINKS
theorem cf_lowerLinks {T L : Nat → Nat} {i : Nat} (h0 : 0 < i) (hi : i < 18) (hl : 0 < lk T i) (hb : lk T i < 2 ^ 30) : s_V_lowerLinks (nI i) (zz T) (zz L) = some (zz (up T (5 * i + 1) (lk T i - 1)), zz (if lk T i = 1 then up L i 1 else L)) := by
  unfold s_V_lowerLinks
  rw [if_neg (nI_ne0 h0 (by omega)), bd_e (cf_links hi), pk_sub (by omega), bd_e (cf_setLinks hi), ga_e i rfl hi (by decide), nI_clamp (by omega), zz_up]
  by_cases h : lk T i = 1
  · rw [if_pos h, if_pos (by rw [h]; rfl)]
  · rw [if_neg h, if_neg (fun q => h (by have := (nI0 (by omega)).mp q; omega))]
