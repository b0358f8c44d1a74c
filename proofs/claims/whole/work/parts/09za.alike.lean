-- alike: class and reference
def Own (σ : St) (b : Nat) : Prop := ∃ i k, i < 18 ∧ k < 3 ∧ pt (σ 1) i k = b
def ALb (σ : St) (b : Nat) : Prop := (b % 12 ≤ 1 ∨ Own σ b) → σ 6 b = 0 ∧ ∀ c, c < sz b → cl (σ 0) (σ 1) (σ 2) b c = cl (σ 3) (σ 4) (σ 5) b c
def ALw (σ : St) : Prop := ∀ b, b < 36 → ALb σ b
section ALw
variable {n F : Nat} {σ : St}
theorem rM_cl {A B C : Nat → Nat} {b c : Nat} (hb : b < 36) (hc : c < sz b) : rM A B C (30 * b + c) = cl A B C b c := by
  have s30 := sz_le (b := b)
  unfold cl
  by_cases h0 : b % 12 = 0
  · rw [sz_0 h0] at hc
    rw [if_pos h0, rM_0 (by omega) (by omega) (by omega)]; congr 1; omega
  · rw [if_neg h0]
    by_cases h1 : b % 12 = 1
    · rw [sz_1 h1] at hc
      rw [if_pos h1, rM_1 (by omega) (by omega)]; congr 1; omega
    · rw [sz_2 (by omega)] at hc
      rw [if_neg h1, rM_w ⟨hb, by omega⟩ hc]
theorem T_lt {T : Nat → Nat} (hT : VT T) {m : Nat} (hm : m < 90) : T m < 2 ^ 32 := by
  have h := hT (m / 5) (by omega)
  have c : m % 5 = 0 ∨ m % 5 = 1 ∨ 2 ≤ m % 5 := by omega
  rcases c with c | c | c
  · have : T (5 * (m / 5)) ≤ 2 := h.1
    rw [show 5 * (m / 5) = m by omega] at this; omega
  · have : T (5 * (m / 5) + 1) < 2 ^ 30 := h.2.1
    rw [show 5 * (m / 5) + 1 = m by omega] at this; omega
  · have : T (5 * (m / 5) + 2 + (m % 5 - 2)) = 0 ∨ isD (T (5 * (m / 5) + 2 + (m % 5 - 2))) := h.2.2 (m % 5 - 2) (by omega)
    rw [show 5 * (m / 5) + 2 + (m % 5 - 2) = m by omega] at this
    rcases this with z | z
    · omega
    · have := z.1; omega
theorem cl_lt {A T W : Nat → Nat} (hA : ∀ m, m < 48 → A m ≤ 1) (hT : VT T) (hW : ∀ q, q < 288 → W q < 2 ^ 32) {b c : Nat} (hb : b < 36) (hc : c < sz b) : cl A T W b c < 2 ^ 32 := by
  unfold cl
  by_cases h0 : b % 12 = 0
  · rw [sz_0 h0] at hc
    rw [if_pos h0]; have := hA (b / 12 * 16 + c) (by omega); omega
  · rw [if_neg h0]
    by_cases h1 : b % 12 = 1
    · rw [sz_1 h1] at hc
      rw [if_pos h1]; exact T_lt hT (by omega)
    · rw [sz_2 (by omega)] at hc
      rw [if_neg h1]; exact hW _ (by omega)
theorem ow_own (h : Inw n σ) {b : Nat} (hb : 2 ≤ b % 12) : ow (σ 1) b = 0 ↔ ¬ Own σ b := by
  unfold ow
  constructor
  · intro z ⟨i, k, hi, hk, e⟩
    have N : sr (fun i => ∃ k', k' < 3 ∧ pt (σ 1) i k' = b) 18 < 18 := sr_lt.mpr ⟨i, hi, k, hk, e⟩
    rw [if_pos N] at z
    obtain ⟨k', hk', e'⟩ := (sr_spec (fun i => ∃ k', k' < 3 ∧ pt (σ 1) i k' = b) 18).2.1 N
    have := ((h.1.1 _ N).2.2.1 z).2 k' hk'
    rw [e'] at this
    rw [this] at hb; omega
  · intro z
    rw [if_neg]
    intro N
    obtain ⟨k', hk', e'⟩ := (sr_spec (fun i => ∃ k', k' < 3 ∧ pt (σ 1) i k' = b) 18).2.1 N
    exact z ⟨_, k', N, hk', e'⟩
theorem cf_areAlike (hF : 40 < F) (h : Inv n σ) : s_V_areAlike F (zz (σ 0)) (zz (σ 1)) (zz (σ 2)) (zz (σ 3)) (zz (σ 4)) (zz (σ 5)) (zz (σ 6)) = some (pif (ALw σ) (nI 1) (nI 0)) := by
  have hT1 := Inv_VT1 h
  have hT4 := Inv_VT4 h
  have h5 := Inw_V5 h.2.1
  have key : ∀ (r b m : Nat), b + r = 36 → r < m → s_V_areAlike_2 F (zz (σ 0)) (zz (σ 1)) (zz (σ 2)) (zz (σ 3)) (zz (σ 4)) (zz (σ 5)) (zz (σ 6)) m (nI b) = some (pif (∀ b', b ≤ b' → b' < 36 → ALb σ b') (nI 1) (nI 0)) := by
    intro r
    induction r with
    | zero =>
      intro b m hb hm
      obtain ⟨m, rfl⟩ : ∃ q, m = q + 1 := ⟨m - 1, by omega⟩
      unfold s_V_areAlike_2
      rw [if_pos (nI_le (by omega) (by omega)), pif_t (fun b' x y => by omega)]
    | succ r ih =>
      intro b m hb hm
      obtain ⟨m, rfl⟩ : ∃ q, m = q + 1 := ⟨m - 1, by omega⟩
      have this := ih (b + 1) m (by omega) (by omega)
      have hb36 : b < 36 := by omega
      have nxt : ALb σ b → pif (∀ b', b + 1 ≤ b' → b' < 36 → ALb σ b') (nI 1) (nI 0) = pif (∀ b', b ≤ b' → b' < 36 → ALb σ b') (nI 1) (nI 0) := fun hh => by
        refine pif_congr ⟨fun z b' x y => ?_, fun z b' x y => z b' (by omega) y⟩
        by_cases e : b' = b
        · rw [e]; exact hh
        · exact z b' (by omega) y
      have k30 : (b % 12 ≤ 1 ∨ Own σ b) → s_V_areAlike_30 F (zz (σ 0)) (zz (σ 1)) (zz (σ 2)) (zz (σ 3)) (zz (σ 4)) (zz (σ 5)) (zz (σ 6)) (s_V_areAlike_2 F (zz (σ 0)) (zz (σ 1)) (zz (σ 2)) (zz (σ 3)) (zz (σ 4)) (zz (σ 5)) (zz (σ 6)) m) (nI b) = some (pif (∀ b', b ≤ b' → b' < 36 → ALb σ b') (nI 1) (nI 0)) := by
        intro ho
        have h61 := (h5.2.1 b hb36).1
        unfold s_V_areAlike_30
        rw [bd_e (cf_isBlank hb36 h61)]
        by_cases h6 : σ 6 b = 0
        · rw [if_pos (by rw [h6]; rfl), bd_e (cf_sameBlock (by omega) hb36 (fun c hc => cl_lt (fun m hm => (h5.1 m hm).1) hT1 (fun q hq => (h5.2.2.2 q hq).1) hb36 hc) (fun c hc => cl_lt (fun m hm => (h5.1 m hm).2) hT4 (fun q hq => (h5.2.2.2 q hq).2) hb36 hc))]
          by_cases sm : ∀ c, c < sz b → cl (σ 0) (σ 1) (σ 2) b c = cl (σ 3) (σ 4) (σ 5) b c
          · rw [pif_t sm, if_neg nn1, nI_add, this, nxt (fun _ => ⟨h6, sm⟩)]
          · rw [pif_f sm, if_pos nI_0, pif_f (fun z => sm (z b (Nat.le_refl _) hb36 ho).2)]
        · rw [if_neg (fun z => h6 ((nI0 (by omega)).mp z)), pif_f (fun z => h6 (z b (Nat.le_refl _) hb36 ho).1)]
      unfold s_V_areAlike_2
      rw [if_neg (nI_ge (by omega) (by omega)), bd_e (cf_isData hb36)]
      by_cases h2 : 2 ≤ b % 12
      · rw [if_pos h2, if_neg nn1, bd_e (cf_namer (by omega) hT1 (by omega))]
        by_cases N : ans (sr (fun i => ∃ k', k' < 3 ∧ pt (σ 1) i k' = b) 18) 18 = -1
        · rw [if_pos N, nI_add, this, nxt]
          intro ho
          exfalso
          rcases ho with z | z
          · omega
          · exact (namer_dn.mp N) z
        · rw [if_neg N]
          exact k30 (Or.inr (Classical.byContradiction fun z => N (namer_dn.mpr z)))
      · rw [if_neg h2, if_pos nI_0]
        exact k30 (Or.inl (by omega))
  unfold s_V_areAlike
  rw [key 36 0 F rfl (by omega)]
  exact congrArg some (pif_congr ⟨fun z b hb => z b (Nat.zero_le _) hb, fun z b _ hb => z b hb⟩)
theorem ak_20 (h : Inv n σ) {b : Nat} (hb : b < 36) : ∀ (r c m : Nat), c + r = sz b → r < m → s_R_alike_20 F (zz (rM (σ 0) (σ 1) (σ 2))) (zz (rM (σ 3) (σ 4) (σ 5))) (zz (σ 6)) m (nI b) (nI c) = some (pif (σ 6 b = 0 ∧ ∀ c', c ≤ c' → c' < sz b → cl (σ 0) (σ 1) (σ 2) b c' = cl (σ 3) (σ 4) (σ 5) b c') (nI 1) (nI 0)) := by
  have hT1 := Inv_VT1 h
  have hT4 := Inv_VT4 h
  have h5 := Inw_V5 h.2.1
  have s30 := sz_le (b := b)
  intro r
  induction r with
  | zero =>
    intro c m hc hm
    obtain ⟨m, rfl⟩ : ∃ q, m = q + 1 := ⟨m - 1, by omega⟩
    have h61 := (h5.2.1 b hb).1
    unfold s_R_alike_20
    rw [bd_e (cf_size hb), if_pos (nI_le (by omega) (by omega)), gr_e b rfl hb (by decide)]
    show (if nI (σ 6 b) = 0 then _ else _) = _
    by_cases h6 : σ 6 b = 0
    · rw [if_pos (by rw [h6]; rfl), pif_t ⟨h6, fun c' x y => by omega⟩]
    · rw [if_neg (fun z => h6 ((nI0 (by omega)).mp z)), pif_f (fun z => h6 z.1)]
  | succ r ih =>
    intro c m hc hm
    obtain ⟨m, rfl⟩ : ∃ q, m = q + 1 := ⟨m - 1, by omega⟩
    have this := ih (c + 1) m (by omega) (by omega)
    have hcs : c < sz b := by omega
    have l1 := cl_lt (fun m hm => (h5.1 m hm).1) hT1 (fun q hq => (h5.2.2.2 q hq).1) hb hcs
    have l2 := cl_lt (fun m hm => (h5.1 m hm).2) hT4 (fun q hq => (h5.2.2.2 q hq).2) hb hcs
    unfold s_R_alike_20
    rw [bd_e (cf_size hb), if_neg (nI_ge (by omega) (by omega)), ix30, gr_e _ rfl (by omega) (by decide), gr_e _ rfl (by omega) (by decide), show zz (rM (σ 0) (σ 1) (σ 2)) (30 * b + c) = nI (cl (σ 0) (σ 1) (σ 2) b c) from congrArg nI (rM_cl hb hcs), show zz (rM (σ 3) (σ 4) (σ 5)) (30 * b + c) = nI (cl (σ 3) (σ 4) (σ 5) b c) from congrArg nI (rM_cl hb hcs), nI_add]
    by_cases e : cl (σ 0) (σ 1) (σ 2) b c = cl (σ 3) (σ 4) (σ 5) b c
    · rw [if_pos (by rw [e]), this]
      refine congrArg some (pif_congr (and_congr_right' ⟨fun z c' x y => ?_, fun z c' x y => z c' (by omega) y⟩))
      by_cases w : c' = c
      · rw [w]; exact e
      · exact z c' (by omega) y
    · rw [if_neg (fun z => e ((nI32 l1 l2).mp z)), pif_f (fun z => e (z.2 c (Nat.le_refl _) hcs))]
theorem cf_allAlike (hF : 40 < F) (h : Inv n σ) : s_R_allAlike F (zz (rM (σ 0) (σ 1) (σ 2))) (zz (rM (σ 3) (σ 4) (σ 5))) (zz (σ 6)) = some (pif (ALw σ) (nI 1) (nI 0)) := by
  have hT1 := Inv_VT1 h
  have one : ∀ b, b < 36 → s_R_alike F (zz (rM (σ 0) (σ 1) (σ 2))) (zz (rM (σ 3) (σ 4) (σ 5))) (zz (σ 6)) (nI b) = some (pif (ALb σ b) (nI 1) (nI 0)) := by
    intro b hb
    have s30 := sz_le (b := b)
    have k18 : (b % 12 ≤ 1 ∨ Own σ b) → s_R_alike_18 F (zz (rM (σ 0) (σ 1) (σ 2))) (zz (rM (σ 3) (σ 4) (σ 5))) (zz (σ 6)) (nI b) = some (pif (ALb σ b) (nI 1) (nI 0)) := fun ho => by
      unfold s_R_alike_18
      rw [ak_20 h hb (sz b) 0 F (by omega) (by omega)]
      exact congrArg some (pif_congr ⟨fun z _ => ⟨z.1, fun c hc => z.2 c (Nat.zero_le _) hc⟩, fun z => ⟨(z ho).1, fun c _ hc => (z ho).2 c hc⟩⟩)
    unfold s_R_alike
    rw [pk_rem (by omega) (by decide) (by decide)]
    by_cases h1 : b % 12 ≤ 1
    · rw [if_pos (nI_le h1 (by decide))]; exact k18 (Or.inl h1)
    · rw [if_neg (nI_ge (by omega) (by omega)), bd_e (cf_owner (by omega) hT1 (by omega))]
      have ol : ow (σ 1) b ≤ 2 := by
        unfold ow; split
        · rename_i N; exact VT_k hT1 N
        · omega
      by_cases o : Own σ b
      · rw [if_neg (fun z => (ow_own h.2.1 (by omega)).mp ((nI0 (by omega)).mp z) o)]; exact k18 (Or.inr o)
      · rw [if_pos (by rw [(ow_own h.2.1 (by omega)).mpr o]; rfl), pif_t (P := ALb σ b) (fun z => z.elim (fun y => absurd y h1) (fun y => absurd y o))]
  have key : ∀ (r b m : Nat), b + r = 36 → r < m → s_R_allAlike_2 F (zz (rM (σ 0) (σ 1) (σ 2))) (zz (rM (σ 3) (σ 4) (σ 5))) (zz (σ 6)) m (nI b) = some (pif (∀ b', b ≤ b' → b' < 36 → ALb σ b') (nI 1) (nI 0)) := by
    intro r
    induction r with
    | zero =>
      intro b m hb hm
      obtain ⟨m, rfl⟩ : ∃ q, m = q + 1 := ⟨m - 1, by omega⟩
      unfold s_R_allAlike_2
      rw [if_pos (nI_le (by omega) (by omega)), pif_t (fun b' x y => by omega)]
    | succ r ih =>
      intro b m hb hm
      obtain ⟨m, rfl⟩ : ∃ q, m = q + 1 := ⟨m - 1, by omega⟩
      have this := ih (b + 1) m (by omega) (by omega)
      unfold s_R_allAlike_2
      rw [if_neg (nI_ge (by omega) (by omega)), bd_e (one b (by omega))]
      by_cases a : ALb σ b
      · rw [pif_t a, if_neg nn1, nI_add, this]
        refine congrArg some (pif_congr ⟨fun z b' x y => ?_, fun z b' x y => z b' (by omega) y⟩)
        by_cases e : b' = b
        · rw [e]; exact a
        · exact z b' (by omega) y
      · rw [pif_f a, if_pos nI_0, pif_f (fun z => a (z b (Nat.le_refl _) (by omega)))]
  unfold s_R_allAlike
  rw [key 36 0 F rfl (by omega)]
  exact congrArg some (pif_congr ⟨fun z b hb => z b (Nat.zero_le _) hb, fun z b _ hb => z b hb⟩)
end ALw
