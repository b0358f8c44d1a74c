-- reclaim: the states
noncomputable def tEw (σ : St) (S : Nat → Prop) (i : Nat) : Nat := EF (σ 1) (σ 2) z1 S i
noncomputable def rT1 (σ : St) (S : Nat → Prop) (k : Nat) : Nat → Nat := fun m => if m / 5 < k then pif (S (m / 5)) (if m % 5 = 1 ∧ m / 5 ≠ 0 then tEw σ S (m / 5) else σ 1 m) 0 else σ 1 m
noncomputable def rT2 (σ : St) (S : Nat → Prop) (k : Nat) : Nat → Nat := fun m => if m / 5 < k then pif (S (m / 5)) (σ 1 m) 0 else σ 1 m
noncomputable def rT3 (σ : St) (S : Nat → Prop) (k : Nat) : Nat → Nat := fun m => if m / 5 < 18 then pif (S (m / 5)) (if m % 5 = 1 ∧ m / 5 ≠ 0 ∧ m / 5 < k then tEw σ S (m / 5) else σ 1 m) 0 else σ 1 m
noncomputable def rMk (σ : St) (S : Nat → Prop) (k l : Nat) : Nat → Nat := fun m => pif (m < 48 ∧ ((m % 16 < 6 ∧ m / 16 * 6 + m % 16 < k ∧ ¬ S (m / 16 * 6 + m % 16)) ∨ (¬ m % 16 < 6 ∧ m / 16 * 12 + (m % 16 - 4) < l ∧ PF (σ 1) S (m / 16 * 12 + (m % 16 - 4)) = 0))) 0 (σ 0 m)
noncomputable def cI (σ : St) (S : Nat → Prop) (k : Nat) : Nat := sm (fun i => pif (S i) 0 (im (σ 0) i)) k
noncomputable def cBw (σ : St) (S : Nat → Prop) (l : Nat) : Nat := sm (fun b => pif (2 ≤ b % 12 ∧ PF (σ 1) S b = 0) (bm (σ 0) b) 0) l
def KTw (σ : St) (S : Nat → Prop) (T : Nat → Nat) : Prop := ∀ i, i < 18 → lk T i < 2 ^ 30 ∧ (S i → kd T i = kd (σ 1) i ∧ ∀ k, k < 3 → pt T i k = pt (σ 1) i k) ∧ ((kd T i = kd (σ 1) i ∧ ∀ k, k < 3 → pt T i k = pt (σ 1) i k) ∨ (kd T i = 0 ∧ ∀ k, k < 3 → pt T i k = 0))
section RC
variable {n F : Nat} {σ : St} {S : Nat → Prop} {T : Nat → Nat}
theorem KT_VT (hT : VT (σ 1)) (h : KTw σ S T) : VT T := by
  intro i hi
  obtain ⟨a, b, c⟩ := h i hi
  obtain ⟨x, y, z⟩ := hT i hi
  rcases c with ⟨c1, c2⟩ | ⟨c1, c2⟩
  · exact ⟨by rw [c1]; exact x, a, fun k hk => by rw [c2 k hk]; exact z k hk⟩
  · exact ⟨by omega, a, fun k hk => Or.inl (c2 k hk)⟩
theorem KT_VE (hE : VE (σ 1) (σ 2) z1) (h : KTw σ S T) : VE T (σ 2) z1 := by
  intro d c hd hc
  obtain ⟨-, -, g⟩ := h d hd
  have hh := hE d c hd hc
  rcases g with ⟨c1, c2⟩ | ⟨c1, c2⟩
  · have : en T (σ 2) z1 d c = en (σ 1) (σ 2) z1 d c := by unfold en; rw [c1, c2 0 (by omega)]
    rw [this]; exact hh
  · have : en T (σ 2) z1 d c = 0 := by unfold en; rw [if_neg (fun z => by rw [c1] at z; omega)]
    rw [this]; exact ⟨by omega, fun z => absurd rfl z⟩
theorem KT_EF (h : KTw σ S T) {i : Nat} : EF T (σ 2) z1 S i = tEw σ S i := by
  refine cn_congr (fun q hq => and_congr_right (fun z => ?_))
  obtain ⟨-, g, -⟩ := h (q / 8) (by omega)
  have : en T (σ 2) z1 (q / 8) (q % 8) = en (σ 1) (σ 2) z1 (q / 8) (q % 8) := by unfold en; rw [(g z).1, (g z).2 0 (by omega)]
  rw [this]
theorem KT_PF (h : KTw σ S T) {b : Nat} : PF T S b = PF (σ 1) S b := by
  refine cn_congr (fun q hq => and_congr_right (fun z => ?_))
  obtain ⟨-, g, -⟩ := h (q / 3) (by omega)
  rw [(g z).2 (q % 3) (by omega)]
theorem tE_le {i : Nat} : tEw σ S i ≤ 144 := EF_le
theorem KT_1 (hT : VT (σ 1)) {k : Nat} : KTw σ S (rT1 σ S k) := by
  intro i hi
  have hl := (hT i hi).2.1
  have e0 : kd (rT1 σ S k) i = if i < k then pif (S i) (kd (σ 1) i) 0 else kd (σ 1) i := by
    show (if 5 * i / 5 < k then pif (S (5 * i / 5)) (if 5 * i % 5 = 1 ∧ 5 * i / 5 ≠ 0 then tEw σ S (5 * i / 5) else σ 1 (5 * i)) 0 else σ 1 (5 * i)) = _
    rw [show 5 * i / 5 = i by omega, if_neg (c := 5 * i % 5 = 1 ∧ i ≠ 0) (by omega)]
  have e1 : lk (rT1 σ S k) i = if i < k then pif (S i) (if i ≠ 0 then tEw σ S i else lk (σ 1) i) 0 else lk (σ 1) i := by
    show (if (5 * i + 1) / 5 < k then pif (S ((5 * i + 1) / 5)) (if (5 * i + 1) % 5 = 1 ∧ (5 * i + 1) / 5 ≠ 0 then tEw σ S ((5 * i + 1) / 5) else σ 1 (5 * i + 1)) 0 else σ 1 (5 * i + 1)) = _
    rw [show (5 * i + 1) / 5 = i by omega]
    by_cases z : i ≠ 0
    · rw [if_pos (c := (5 * i + 1) % 5 = 1 ∧ i ≠ 0) ⟨by omega, z⟩, if_pos z]
    · rw [if_neg (c := (5 * i + 1) % 5 = 1 ∧ i ≠ 0) (fun y => z y.2), if_neg z]
  have e2 : ∀ j, j < 3 → pt (rT1 σ S k) i j = if i < k then pif (S i) (pt (σ 1) i j) 0 else pt (σ 1) i j := fun j hj => by
    show (if (5 * i + 2 + j) / 5 < k then pif (S ((5 * i + 2 + j) / 5)) (if (5 * i + 2 + j) % 5 = 1 ∧ (5 * i + 2 + j) / 5 ≠ 0 then tEw σ S ((5 * i + 2 + j) / 5) else σ 1 (5 * i + 2 + j)) 0 else σ 1 (5 * i + 2 + j)) = _
    rw [show (5 * i + 2 + j) / 5 = i by omega, if_neg (c := (5 * i + 2 + j) % 5 = 1 ∧ i ≠ 0) (by omega)]
  rw [e0, e1]
  by_cases a : i < k
  · rw [if_pos a, if_pos a]
    by_cases s : S i
    · rw [pif_t s, pif_t s]
      refine ⟨?_, fun _ => ⟨rfl, fun j hj => by rw [e2 j hj, if_pos a, pif_t s]⟩, Or.inl ⟨rfl, fun j hj => by rw [e2 j hj, if_pos a, pif_t s]⟩⟩
      split
      · have := tE_le (σ := σ) (S := S) (i := i); omega
      · exact hl
    · rw [pif_f s, pif_f s]
      exact ⟨by omega, fun z => absurd z s, Or.inr ⟨rfl, fun j hj => by rw [e2 j hj, if_pos a, pif_f s]⟩⟩
  · rw [if_neg a, if_neg a]
    exact ⟨hl, fun _ => ⟨rfl, fun j hj => by rw [e2 j hj, if_neg a]⟩, Or.inl ⟨rfl, fun j hj => by rw [e2 j hj, if_neg a]⟩⟩
theorem rT3_18 : rT3 σ S 18 = rT1 σ S 18 := by
  funext m
  unfold rT3 rT1
  by_cases a : m / 5 < 18
  · rw [if_pos a, if_pos a]
    by_cases b : m % 5 = 1 ∧ m / 5 ≠ 0
    · rw [if_pos b, if_pos ⟨b.1, b.2, a⟩]
    · rw [if_neg b, if_neg (fun z => b ⟨z.1, z.2.1⟩)]
  · rw [if_neg a, if_neg a]
theorem rT3_1 : rT3 σ S 1 = rT2 σ S 18 := by
  funext m
  unfold rT3 rT2
  rw [if_neg (c := m % 5 = 1 ∧ m / 5 ≠ 0 ∧ m / 5 < 1) (by omega)]
theorem KT_3 (hT : VT (σ 1)) {k : Nat} : KTw σ S (rT3 σ S k) := by
  intro i hi
  have hl := (hT i hi).2.1
  have e0 : kd (rT3 σ S k) i = pif (S i) (kd (σ 1) i) 0 := by
    show (if 5 * i / 5 < 18 then pif (S (5 * i / 5)) (if 5 * i % 5 = 1 ∧ 5 * i / 5 ≠ 0 ∧ 5 * i / 5 < k then tEw σ S (5 * i / 5) else σ 1 (5 * i)) 0 else σ 1 (5 * i)) = _
    rw [show 5 * i / 5 = i by omega, if_neg (c := 5 * i % 5 = 1 ∧ i ≠ 0 ∧ i < k) (by omega), if_pos hi]
  have e1 : lk (rT3 σ S k) i < 2 ^ 30 := by
    show (if (5 * i + 1) / 5 < 18 then pif (S ((5 * i + 1) / 5)) (if (5 * i + 1) % 5 = 1 ∧ (5 * i + 1) / 5 ≠ 0 ∧ (5 * i + 1) / 5 < k then tEw σ S ((5 * i + 1) / 5) else σ 1 (5 * i + 1)) 0 else σ 1 (5 * i + 1)) < _
    rw [show (5 * i + 1) / 5 = i by omega, if_pos hi]
    by_cases s : S i
    · rw [pif_t s]; split
      · have := tE_le (σ := σ) (S := S) (i := i); omega
      · exact hl
    · rw [pif_f s]; omega
  have e2 : ∀ j, j < 3 → pt (rT3 σ S k) i j = pif (S i) (pt (σ 1) i j) 0 := fun j hj => by
    show (if (5 * i + 2 + j) / 5 < 18 then pif (S ((5 * i + 2 + j) / 5)) (if (5 * i + 2 + j) % 5 = 1 ∧ (5 * i + 2 + j) / 5 ≠ 0 ∧ (5 * i + 2 + j) / 5 < k then tEw σ S ((5 * i + 2 + j) / 5) else σ 1 (5 * i + 2 + j)) 0 else σ 1 (5 * i + 2 + j)) = _
    rw [show (5 * i + 2 + j) / 5 = i by omega, if_neg (c := (5 * i + 2 + j) % 5 = 1 ∧ i ≠ 0 ∧ i < k) (by omega), if_pos hi]
  rw [e0]
  by_cases s : S i
  · rw [pif_t s]
    exact ⟨e1, fun _ => ⟨rfl, fun j hj => by rw [e2 j hj, pif_t s]⟩, Or.inl ⟨rfl, fun j hj => by rw [e2 j hj, pif_t s]⟩⟩
  · rw [pif_f s]
    exact ⟨e1, fun z => absurd z s, Or.inr ⟨rfl, fun j hj => by rw [e2 j hj, pif_f s]⟩⟩
-- steps of the maps
theorem rMk_0 : rMk σ S 0 0 = σ 0 := by
  funext m; unfold rMk; rw [pif_f]
  rintro ⟨-, ⟨_, b, _⟩ | ⟨_, b, _⟩⟩ <;> omega
theorem rMk_it {k : Nat} (hk : k < 18) (h : S k) : rMk σ S (k + 1) 0 = rMk σ S k 0 := by
  funext m; unfold rMk
  refine pif_congr (and_congr_right' (or_congr ⟨fun ⟨a, b, c⟩ => ⟨a, ?_, c⟩, fun ⟨a, b, c⟩ => ⟨a, by omega, c⟩⟩ Iff.rfl))
  by_cases e : m / 16 * 6 + m % 16 = k
  · rw [e] at c; exact absurd h c
  · omega
theorem rMk_if {k : Nat} (hk : k < 18) (h : ¬ S k) : up (rMk σ S k 0) (k / 6 * 16 + k % 6) 0 = rMk σ S (k + 1) 0 := by
  funext m
  by_cases e : m = k / 6 * 16 + k % 6
  · rw [e, up_s]; unfold rMk
    rw [pif_t]
    refine ⟨by omega, Or.inl ⟨by omega, by omega, ?_⟩⟩
    rw [show (k / 6 * 16 + k % 6) / 16 * 6 + (k / 6 * 16 + k % 6) % 16 = k by omega]; exact h
  · rw [up_n e]; unfold rMk
    refine pif_congr (and_congr_right' (or_congr ⟨fun ⟨a, b, c⟩ => ⟨a, by omega, c⟩, fun ⟨a, b, c⟩ => ⟨a, by omega, c⟩⟩ Iff.rfl))
theorem rMk_im {k : Nat} : im (rMk σ S k 0) k = im (σ 0) k ∨ 18 ≤ k := by
  by_cases hk : k < 18
  · left
    show pif (k / 6 * 16 + k % 6 < 48 ∧ (((k / 6 * 16 + k % 6) % 16 < 6 ∧ (k / 6 * 16 + k % 6) / 16 * 6 + (k / 6 * 16 + k % 6) % 16 < k ∧ _) ∨ (_ ∧ _ < 0 ∧ _))) 0 (σ 0 (k / 6 * 16 + k % 6)) = _
    rw [pif_f]
    rintro ⟨-, ⟨_, b, _⟩ | ⟨_, b, _⟩⟩ <;> omega
  · right; omega
theorem rMk_bt {l : Nat} (h : ¬ (2 ≤ l % 12 ∧ PF (σ 1) S l = 0)) : rMk σ S 18 (l + 1) = rMk σ S 18 l := by
  funext m; unfold rMk
  refine pif_congr (and_congr_right' (or_congr Iff.rfl ⟨fun ⟨a, b, c⟩ => ⟨a, ?_, c⟩, fun ⟨a, b, c⟩ => ⟨a, by omega, c⟩⟩))
  by_cases e : m / 16 * 12 + (m % 16 - 4) = l
  · rw [e] at c; exact absurd ⟨by omega, c⟩ h
  · omega
theorem rMk_bf {l : Nat} (hl : isD l) (h : PF (σ 1) S l = 0) : up (rMk σ S 18 l) (l / 12 * 16 + 4 + l % 12) 0 = rMk σ S 18 (l + 1) := by
  obtain ⟨h1, h2⟩ := hl
  funext m
  by_cases e : m = l / 12 * 16 + 4 + l % 12
  · rw [e, up_s]; unfold rMk
    rw [pif_t]
    refine ⟨by omega, Or.inr ⟨by omega, by omega, ?_⟩⟩
    rw [show (l / 12 * 16 + 4 + l % 12) / 16 * 12 + ((l / 12 * 16 + 4 + l % 12) % 16 - 4) = l by omega]; exact h
  · rw [up_n e]; unfold rMk
    refine pif_congr (and_congr_right (fun m48 => or_congr Iff.rfl ⟨fun ⟨a, b, c⟩ => ⟨a, by omega, c⟩, fun ⟨a, b, c⟩ => ⟨a, by omega, c⟩⟩))
theorem rMk_bm {l : Nat} (hl : isD l) : bm (rMk σ S 18 l) l = bm (σ 0) l := by
  obtain ⟨h1, h2⟩ := hl
  show pif (l / 12 * 16 + 4 + l % 12 < 48 ∧ (((l / 12 * 16 + 4 + l % 12) % 16 < 6 ∧ _) ∨ (_ ∧ (l / 12 * 16 + 4 + l % 12) / 16 * 12 + ((l / 12 * 16 + 4 + l % 12) % 16 - 4) < l ∧ _))) 0 (σ 0 (l / 12 * 16 + 4 + l % 12)) = _
  rw [pif_f]
  rintro ⟨-, ⟨a, _⟩ | ⟨_, b, _⟩⟩ <;> omega
-- steps of the tables
theorem rT1_0 : rT1 σ S 0 = σ 1 := by funext m; unfold rT1; rw [if_neg (by omega)]
theorem rT1_w {k : Nat} (h : ¬ S k) : cp (rT1 σ S k) z1 (5 * k) 5 = rT1 σ S (k + 1) := by
  funext m
  unfold cp
  by_cases e : m / 5 = k
  · rw [if_pos (by omega)]; unfold rT1; rw [if_pos (by omega), e, pif_f h]; rfl
  · rw [if_neg (by omega)]; unfold rT1
    by_cases a : m / 5 < k
    · rw [if_pos a, if_pos (show m / 5 < k + 1 by omega)]
    · rw [if_neg a, if_neg (show ¬ m / 5 < k + 1 by omega)]
theorem rT1_l {k : Nat} (h : S k) (h0 : k ≠ 0) : up (rT1 σ S k) (5 * k + 1) (tEw σ S k) = rT1 σ S (k + 1) := by
  funext m
  by_cases e : m = 5 * k + 1
  · rw [e, up_s]; unfold rT1
    rw [if_pos (by omega), show (5 * k + 1) / 5 = k by omega, pif_t h, if_pos ⟨by omega, h0⟩]
  · rw [up_n e]; unfold rT1
    by_cases a : m / 5 < k
    · rw [if_pos a, if_pos (show m / 5 < k + 1 by omega)]
    · rw [if_neg a]
      by_cases b : m / 5 < k + 1
      · have : m / 5 = k := by omega
        rw [if_pos b, this, pif_t h, if_neg (by omega)]
      · rw [if_neg b]
theorem rT1_z (h : S 0) : rT1 σ S 1 = rT1 σ S 0 := by
  rw [rT1_0]
  funext m; unfold rT1
  by_cases a : m / 5 < 1
  · have : m / 5 = 0 := by omega
    rw [if_pos a, this, pif_t h, if_neg (fun z => z.2 rfl)]
  · rw [if_neg a]
theorem rT2_0 : rT2 σ S 0 = σ 1 := by funext m; unfold rT2; rw [if_neg (by omega)]
theorem rT2_w {k : Nat} (h : ¬ S k) : cp (rT2 σ S k) z1 (5 * k) 5 = rT2 σ S (k + 1) := by
  funext m
  unfold cp
  by_cases e : m / 5 = k
  · rw [if_pos (by omega)]; unfold rT2; rw [if_pos (by omega), e, pif_f h]; rfl
  · rw [if_neg (by omega)]; unfold rT2
    by_cases a : m / 5 < k
    · rw [if_pos a, if_pos (show m / 5 < k + 1 by omega)]
    · rw [if_neg a, if_neg (show ¬ m / 5 < k + 1 by omega)]
theorem rT2_t {k : Nat} (h : S k) : rT2 σ S (k + 1) = rT2 σ S k := by
  funext m; unfold rT2
  by_cases a : m / 5 < k
  · rw [if_pos a, if_pos (by omega)]
  · rw [if_neg a]
    by_cases b : m / 5 < k + 1
    · have : m / 5 = k := by omega
      rw [if_pos b, this, pif_t h]
    · rw [if_neg b]
theorem rT3_s {k : Nat} (hk : k < 18) (h0 : k ≠ 0) : up (rT3 σ S k) (5 * k + 1) (pif (S k) (tEw σ S k) 0) = rT3 σ S (k + 1) := by
  funext m
  by_cases e : m = 5 * k + 1
  · rw [e, up_s]; unfold rT3
    rw [if_pos (by omega), show (5 * k + 1) / 5 = k by omega, if_pos ⟨by omega, h0, by omega⟩]
  · rw [up_n e]; unfold rT3
    by_cases a : m / 5 < 18
    · rw [if_pos a, if_pos a]
      have : (if m % 5 = 1 ∧ m / 5 ≠ 0 ∧ m / 5 < k then tEw σ S (m / 5) else σ 1 m) = (if m % 5 = 1 ∧ m / 5 ≠ 0 ∧ m / 5 < k + 1 then tEw σ S (m / 5) else σ 1 m) := by
        by_cases c : m % 5 = 1 ∧ m / 5 ≠ 0 ∧ m / 5 < k
        · rw [if_pos c, if_pos ⟨c.1, c.2.1, by omega⟩]
        · rw [if_neg c, if_neg (by omega)]
      rw [this]
    · rw [if_neg a, if_neg a]
-- counts
theorem cI_t {k : Nat} (h : S k) : cI σ S (k + 1) = cI σ S k := by
  show sm _ k + pif (S k) 0 (im (σ 0) k) = _
  rw [pif_t h]; rfl
theorem cI_f {k : Nat} (h : ¬ S k) : cI σ S (k + 1) = cI σ S k + im (σ 0) k := by
  show sm _ k + pif (S k) 0 (im (σ 0) k) = _
  rw [pif_f h]; rfl
theorem cB_t {l : Nat} (h : ¬ (2 ≤ l % 12 ∧ PF (σ 1) S l = 0)) : cBw σ S (l + 1) = cBw σ S l := by
  show sm _ l + pif (2 ≤ l % 12 ∧ PF (σ 1) S l = 0) (bm (σ 0) l) 0 = _
  rw [pif_f h]; rfl
theorem cB_f {l : Nat} (h : 2 ≤ l % 12 ∧ PF (σ 1) S l = 0) : cBw σ S (l + 1) = cBw σ S l + bm (σ 0) l := by
  show sm _ l + pif (2 ≤ l % 12 ∧ PF (σ 1) S l = 0) (bm (σ 0) l) 0 = _
  rw [pif_t h]; rfl
end RC
