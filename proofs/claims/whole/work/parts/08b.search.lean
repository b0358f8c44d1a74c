-- searches
def ans (k n : Nat) : Int32 := if k < n then nI k else -1
theorem ans_t {k n : Nat} (h : k < n) : ans k n = nI k := if_pos h
theorem ans_f {k n : Nat} (h : ¬ k < n) : ans k n = -1 := if_neg h
theorem nI_m1 {k : Nat} (h : k < 2 ^ 31) : ¬ nI k = -1 := by
  intro e
  have h1 := nI_toInt h
  rw [e] at h1
  have h2 : (-1 : Int32).toInt = -1 := by decide
  rw [h2] at h1; omega
theorem ans_m1 {k n : Nat} (hn : n < 2 ^ 31) : ans k n = -1 ↔ ¬ k < n := by
  constructor
  · intro e h; rw [ans_t h] at e; exact nI_m1 (by omega) e
  · exact fun h => ans_f h
theorem cf_isName_t {m : Nat} (h1 : 1 ≤ m) (h2 : m ≤ 999) : s_V_isName (nI m) = some (nI 1) := by
  unfold s_V_isName
  rw [if_neg (nI_nlt h1 (by omega)), if_neg (nI_nlt h2 (by omega))]
theorem isName_or (x : Int32) : (∃ m : Nat, 1 ≤ m ∧ m ≤ 999 ∧ x = nI m) ∨ (s_V_isName x = some (nI 0) ∧ (x < nI 1 ∨ nI 999 < x)) := by
  by_cases h1 : x < nI 1
  · right; unfold s_V_isName s_V_isName_16; rw [if_pos h1]; exact ⟨rfl, Or.inl h1⟩
  · by_cases h2 : nI 999 < x
    · right; unfold s_V_isName s_V_isName_16; rw [if_neg h1, if_pos h2]; exact ⟨rfl, Or.inr h2⟩
    · left
      have a1 : ¬ x.toInt < 1 := fun q => h1 (Int32.lt_iff_toInt_lt.mpr (by rw [nI_toInt (by decide)]; exact q))
      have a2 : ¬ 999 < x.toInt := fun q => h2 (Int32.lt_iff_toInt_lt.mpr (by rw [nI_toInt (by decide)]; exact q))
      have a3 : ¬ x < 0 := fun q => by have := Int32.lt_iff_toInt_lt.mp q; rw [show (0 : Int32).toInt = 0 from rfl] at this; omega
      obtain ⟨j, hj, e⟩ := nI_of a3
      have := nI_toInt hj
      rw [← e] at this
      exact ⟨j, by omega, by omega, e⟩
theorem cf_cellOfName_11 {F : Nat} {T W B : Nat → Nat} {d m : Nat} (hT : VT T) (hB : ∀ b, b < 36 → B b ≤ 1) (hd : d < 18) (hm : m < 2 ^ 31) (hE : ∀ c, c < 8 → en T W B d c < 2 ^ 31) : ∀ (r k n : Nat), k + r = 8 → r < n → (∀ j, j < k → ¬ en T W B d j / 32 = m) → s_S_cellOfName_11 F (zz T) (zz W) (zz B) n (nI d) (nI m) (nI k) = some (ans (sr (fun c => en T W B d c / 32 = m) 8) 8) := by
  intro r
  induction r with
  | zero =>
    intro k n hk hn hj
    obtain ⟨n, rfl⟩ : ∃ q, n = q + 1 := ⟨n - 1, by omega⟩
    unfold s_S_cellOfName_11
    have e8 : k = 8 := by omega
    subst e8
    rw [if_pos (nI_le (by omega) (by omega)), sr_none.mpr hj]; rfl
  | succ r ih =>
    intro k n hk hn hj
    obtain ⟨n, rfl⟩ : ∃ q, n = q + 1 := ⟨n - 1, by omega⟩
    have := hE k (by omega)
    unfold s_S_cellOfName_11
    rw [if_neg (nI_ge (by omega) (by omega)), bd_e (cf_entry hT hB hd (by omega)), pk_div this (by decide) (by decide)]
    by_cases h : en T W B d k / 32 = m
    · rw [if_pos (by rw [h]), sr_eq (P := fun c => en T W B d c / 32 = m) (k := k) (by omega) (fun _ => h) hj, ans_t (by omega)]
    · rw [if_neg (fun q => h ((nI_eq (by omega) hm).mp q)), nI_add]
      refine ih (k + 1) n (by omega) (by omega) (fun j hj2 => ?_)
      by_cases e : j = k
      · subst e; exact h
      · exact hj j (by omega)
theorem cf_cellOfName {F : Nat} {T W B : Nat → Nat} {d m : Nat} (hF : 8 < F) (hT : VT T) (hB : ∀ b, b < 36 → B b ≤ 1) (hd : d < 18) (h1 : 1 ≤ m) (h2 : m ≤ 999) (hE : ∀ c, c < 8 → en T W B d c < 2 ^ 31) : s_S_cellOfName F (zz T) (zz W) (zz B) (nI d) (nI m) = some (ans (sr (fun c => en T W B d c / 32 = m) 8) 8) := by
  unfold s_S_cellOfName
  rw [bd_e (cf_isName_t h1 h2), if_neg (show ¬ nI 1 = 0 by decide)]
  exact cf_cellOfName_11 hT hB hd (by omega) hE 8 0 F rfl hF (fun j hj => absurd hj (Nat.not_lt_zero _))
theorem cf_cellOfName_n {F : Nat} {T W B : Nat → Int32} {d x : Int32} (hx : s_V_isName x = some (nI 0)) : s_S_cellOfName F T W B d x = some (-1) := by
  unfold s_S_cellOfName
  rw [bd_e hx, if_pos (show nI 0 = 0 by decide)]
theorem cf_namer_10 {F : Nat} {T : Nat → Nat} {k2 : Int32 → Int32 → Option Int32} {b i : Nat} (hT : VT T) (hb : b < 2 ^ 31) (hi : i < 18) : ∀ (r k n : Nat), k + r = 3 → r < n → s_S_namer_10 F (zz T) k2 n (nI b) (nI i) (nI k) = pif (∃ k', k ≤ k' ∧ k' < 3 ∧ pt T i k' = b) (some (nI i)) (k2 (nI b) (nI (i + 1))) := by
  intro r
  induction r with
  | zero =>
    intro k n hk hn
    obtain ⟨n, rfl⟩ : ∃ q, n = q + 1 := ⟨n - 1, by omega⟩
    unfold s_S_namer_10
    rw [if_pos (nI_le (by omega) (by omega)), pif_f (fun ⟨k', q1, q2, _⟩ => by omega), nI_add]
  | succ r ih =>
    intro k n hk hn
    obtain ⟨n, rfl⟩ : ∃ q, n = q + 1 := ⟨n - 1, by omega⟩
    have := VT_p hT hi (k := k) (by omega)
    unfold s_S_namer_10
    rw [if_neg (nI_ge (by omega) (by omega)), bd_e (cf_pointer hi (by omega))]
    by_cases h : pt T i k = b
    · rw [if_pos (by rw [h]), pif_t ⟨k, Nat.le_refl _, by omega, h⟩]
    · rw [if_neg (fun q => h ((nI_eq (by omega) hb).mp q)), nI_add, ih (k + 1) n (by omega) (by omega)]
      refine pif_congr ⟨fun ⟨k', q1, q2, q3⟩ => ⟨k', by omega, q2, q3⟩, fun ⟨k', q1, q2, q3⟩ => ⟨k', ?_, q2, q3⟩⟩
      by_cases e : k' = k
      · subst e; exact absurd q3 h
      · omega
theorem cf_namer_2 {F : Nat} {T : Nat → Nat} {b : Nat} (hF : 3 < F) (hT : VT T) (hb : b < 2 ^ 31) : ∀ (r k n : Nat), k + r = 18 → r < n → (∀ j, j < k → ¬ ∃ k', k' < 3 ∧ pt T j k' = b) → s_S_namer_2 F (zz T) n (nI b) (nI k) = some (ans (sr (fun i => ∃ k', k' < 3 ∧ pt T i k' = b) 18) 18) := by
  intro r
  induction r with
  | zero =>
    intro k n hk hn hj
    obtain ⟨n, rfl⟩ : ∃ q, n = q + 1 := ⟨n - 1, by omega⟩
    unfold s_S_namer_2
    have e8 : k = 18 := by omega
    subst e8
    rw [if_pos (nI_le (by omega) (by omega)), sr_none.mpr hj]; rfl
  | succ r ih =>
    intro k n hk hn hj
    obtain ⟨n, rfl⟩ : ∃ q, n = q + 1 := ⟨n - 1, by omega⟩
    unfold s_S_namer_2
    rw [if_neg (nI_ge (by omega) (by omega)), cf_namer_10 hT hb (by omega) 3 0 F rfl hF]
    by_cases h : ∃ k', k' < 3 ∧ pt T k k' = b
    · rw [pif_t (by obtain ⟨k', q1, q2⟩ := h; exact ⟨k', Nat.zero_le _, q1, q2⟩), sr_eq (P := fun i => ∃ k', k' < 3 ∧ pt T i k' = b) (k := k) (by omega) (fun _ => h) hj, ans_t (by omega)]
    · rw [pif_f (fun ⟨k', _, q1, q2⟩ => h ⟨k', q1, q2⟩)]
      refine ih (k + 1) n (by omega) (by omega) (fun j hj2 => ?_)
      by_cases e : j = k
      · subst e; exact h
      · exact hj j (by omega)
theorem cf_namer {F : Nat} {T : Nat → Nat} {b : Nat} (hF : 18 < F) (hT : VT T) (hb : b < 2 ^ 31) : s_S_namer F (zz T) (nI b) = some (ans (sr (fun i => ∃ k', k' < 3 ∧ pt T i k' = b) 18) 18) :=
  cf_namer_2 (by omega) hT hb 18 0 F rfl hF (fun j hj => absurd hj (Nat.not_lt_zero _))
-- free inodes and blocks
def fre (M T : Nat → Nat) (i : Nat) : Prop := im M i = 0 ∧ kd T i = 0
theorem cf_isFreeInode {M T : Nat → Nat} {i : Nat} (hT : VT T) (hM : ∀ n, n < 48 → M n ≤ 1) (hi : i < 18) : s_S_isFreeInode (zz M) (zz T) (nI i) = some (pif (fre M T i) (nI 1) (nI 0)) := by
  have h1 : im M i ≤ 1 := hM _ (by omega)
  have h2 := VT_k hT hi
  unfold s_S_isFreeInode s_S_isFreeInode_20
  rw [bd_e (cf_inodeMark hi)]
  by_cases h : im M i = 0
  · rw [if_pos (by rw [h]; rfl), bd_e (cf_kind hi)]
    by_cases h' : kd T i = 0
    · rw [if_pos (by rw [h']; rfl), pif_t ⟨h, h'⟩]
    · rw [if_neg (fun q => h' ((nI0 (by omega)).mp q)), pif_f (fun q => h' q.2)]
  · rw [if_neg (fun q => h ((nI0 (by omega)).mp q)), pif_f (fun q => h q.1)]
theorem pif01 {P : Prop} : (pif P (nI 1) (nI 0) = 0) ↔ ¬ P := by
  by_cases p : P
  · rw [pif_t p]; exact ⟨fun q => absurd q (by decide), fun q => absurd p q⟩
  · rw [pif_f p]; exact ⟨fun _ => p, fun _ => rfl⟩
theorem cf_freeInode_19 {F : Nat} {M T : Nat → Nat} {k2 : Int32 → Int32 → Option Int32} {g q f : Nat} (hT : VT T) (hM : ∀ n, n < 48 → M n ≤ 1) (hq : q < 3) (hf : f = (g + q) % 3 * 6) : ∀ (r k n : Nat), k + r = 6 → r < n → (∀ j, j < 6 * q + k → ¬ fre M T ((6 * g + j) % 18)) →
    s_S_freeInode_19 F (zz M) (zz T) k2 n (nI g) (nI q) (nI f) (nI (f + k)) = pif (∃ j, k ≤ j ∧ j < 6 ∧ fre M T (f + j)) (some (nI ((6 * g + sr (fun j => fre M T ((6 * g + j) % 18)) 18) % 18))) (k2 (nI g) (nI (q + 1))) := by
  intro r
  induction r with
  | zero =>
    intro k n hk hn hj
    obtain ⟨n, rfl⟩ : ∃ q, n = q + 1 := ⟨n - 1, by omega⟩
    unfold s_S_freeInode_19
    rw [nI_add, if_pos (nI_le (by omega) (by omega)), pif_f (fun ⟨k', q1, q2, _⟩ => by omega), nI_add]
  | succ r ih =>
    intro k n hk hn hj
    obtain ⟨n, rfl⟩ : ∃ q, n = q + 1 := ⟨n - 1, by omega⟩
    unfold s_S_freeInode_19
    have e1 : (6 * g + (6 * q + k)) % 18 = f + k := by omega
    rw [nI_add, if_neg (nI_ge (by omega) (by omega)), bd_e (cf_isFreeInode hT hM (by omega))]
    by_cases h : fre M T (f + k)
    · rw [if_neg (fun z => pif01.mp z h), pif_t ⟨k, Nat.le_refl _, by omega, h⟩, sr_eq (P := fun j => fre M T ((6 * g + j) % 18)) (k := 6 * q + k) (by omega) (fun _ => by rw [e1]; exact h) hj, e1]
    · rw [if_pos (pif01.mpr h), nI_add, show f + k + 1 = f + (k + 1) by omega, ih (k + 1) n (by omega) (by omega) (fun j hj2 => ?_)]
      · refine pif_congr ⟨fun ⟨k', q1, q2, q3⟩ => ⟨k', by omega, q2, q3⟩, fun ⟨k', q1, q2, q3⟩ => ⟨k', ?_, q2, q3⟩⟩
        by_cases e : k' = k
        · subst e; exact absurd q3 h
        · omega
      · by_cases e : j = 6 * q + k
        · subst e; rw [e1]; exact h
        · exact hj j (by omega)
theorem cf_freeInode_2 {F : Nat} {M T : Nat → Nat} {g : Nat} (hF : 6 < F) (hT : VT T) (hM : ∀ n, n < 48 → M n ≤ 1) (hg : g < 3) : ∀ (r k n : Nat), k + r = 3 → r < n → (∀ j, j < 6 * k → ¬ fre M T ((6 * g + j) % 18)) →
    s_S_freeInode_2 F (zz M) (zz T) n (nI g) (nI k) = some (if sr (fun j => fre M T ((6 * g + j) % 18)) 18 < 18 then nI ((6 * g + sr (fun j => fre M T ((6 * g + j) % 18)) 18) % 18) else -1) := by
  intro r
  induction r with
  | zero =>
    intro k n hk hn hj
    obtain ⟨n, rfl⟩ : ∃ q, n = q + 1 := ⟨n - 1, by omega⟩
    unfold s_S_freeInode_2
    have e8 : k = 3 := by omega
    subst e8
    rw [if_pos (nI_le (by omega) (by omega)), sr_none.mpr hj, if_neg (by omega)]
  | succ r ih =>
    intro k n hk hn hj
    obtain ⟨n, rfl⟩ : ∃ q, n = q + 1 := ⟨n - 1, by omega⟩
    unfold s_S_freeInode_2
    rw [if_neg (nI_ge (by omega) (by omega)), nI_add, pk_rem (a := g + k) (d := 3) (by omega) (by decide) (by decide), pk_mul]
    have := cf_freeInode_19 (F := F) (k2 := s_S_freeInode_2 F (zz M) (zz T) n) (q := k) hT hM (by omega) rfl 6 0 F rfl hF (by simpa using hj)
    rw [Nat.add_zero] at this
    rw [this]
    by_cases h : ∃ j, 0 ≤ j ∧ j < 6 ∧ fre M T ((g + k) % 3 * 6 + j)
    · rw [pif_t h, if_pos]
      obtain ⟨j, _, h1, h2⟩ := h
      refine sr_lt.mpr ⟨6 * k + j, by omega, ?_⟩
      rw [show (6 * g + (6 * k + j)) % 18 = (g + k) % 3 * 6 + j by omega]; exact h2
    · rw [pif_f h]
      refine ih (k + 1) n (by omega) (by omega) (fun j hj2 => ?_)
      by_cases e : j < 6 * k
      · exact hj j e
      · intro hf
        refine h ⟨j - 6 * k, Nat.zero_le _, by omega, ?_⟩
        rw [show (g + k) % 3 * 6 + (j - 6 * k) = (6 * g + j) % 18 by omega]; exact hf
theorem cf_freeInode {F : Nat} {M T : Nat → Nat} {g : Nat} (hF : 6 < F) (hT : VT T) (hM : ∀ n, n < 48 → M n ≤ 1) (hg : g < 3) : s_S_freeInode F (zz M) (zz T) (nI g) = some (if sr (fun j => fre M T ((6 * g + j) % 18)) 18 < 18 then nI ((6 * g + sr (fun j => fre M T ((6 * g + j) % 18)) 18) % 18) else -1) :=
  cf_freeInode_2 hF hT hM hg 3 0 F rfl (by omega) (fun j hj => absurd hj (by omega))
def frb (M : Nat → Nat) (b : Nat) : Prop := 2 ≤ b % 12 ∧ bm M b = 0
theorem cf_freeBlock_21 {F : Nat} {M : Nat → Nat} {k2 : Int32 → Int32 → Option Int32} {g q f : Nat} (hM : ∀ n, n < 48 → M n ≤ 1) (hq : q < 3) (hf : f = (g + q) % 3 * 12) : ∀ (r k n : Nat), k + r = 10 → r < n → (∀ j, j < 12 * q + 2 + k → ¬ frb M ((12 * g + j) % 36)) →
    s_S_freeBlock_21 F (zz M) k2 n (nI g) (nI q) (nI f) (nI (f + 2 + k)) = pif (∃ j, k ≤ j ∧ j < 10 ∧ frb M (f + 2 + j)) (some (nI ((12 * g + sr (fun j => frb M ((12 * g + j) % 36)) 36) % 36))) (k2 (nI g) (nI (q + 1))) := by
  intro r
  induction r with
  | zero =>
    intro k n hk hn hj
    obtain ⟨n, rfl⟩ : ∃ q, n = q + 1 := ⟨n - 1, by omega⟩
    unfold s_S_freeBlock_21
    rw [nI_add, if_pos (nI_le (by omega) (by omega)), pif_f (fun ⟨k', q1, q2, _⟩ => by omega), nI_add]
  | succ r ih =>
    intro k n hk hn hj
    obtain ⟨n, rfl⟩ : ∃ q, n = q + 1 := ⟨n - 1, by omega⟩
    unfold s_S_freeBlock_21
    have e1 : (12 * g + (12 * q + 2 + k)) % 36 = f + 2 + k := by omega
    have hD : isD (f + 2 + k) := ⟨by omega, by omega⟩
    have hm : bm M (f + 2 + k) ≤ 1 := hM _ (by have := hD.1; have := hD.2; omega)
    rw [nI_add, if_neg (nI_ge (by omega) (by omega)), bd_e (cf_blockMark hD)]
    by_cases h : bm M (f + 2 + k) = 0
    · have hb : frb M (f + 2 + k) := ⟨hD.2, h⟩
      rw [if_pos (by rw [h]; rfl), pif_t ⟨k, Nat.le_refl _, by omega, hb⟩, sr_eq (P := fun j => frb M ((12 * g + j) % 36)) (k := 12 * q + 2 + k) (by omega) (fun _ => by rw [e1]; exact hb) hj, e1]
    · rw [if_neg (fun z => h ((nI0 (by omega)).mp z)), nI_add, show f + 2 + k + 1 = f + 2 + (k + 1) by omega, ih (k + 1) n (by omega) (by omega) (fun j hj2 => ?_)]
      · refine pif_congr ⟨fun ⟨k', q1, q2, q3⟩ => ⟨k', by omega, q2, q3⟩, fun ⟨k', q1, q2, q3⟩ => ⟨k', ?_, q2, q3⟩⟩
        by_cases e : k' = k
        · subst e; exact absurd q3.2 h
        · omega
      · by_cases e : j = 12 * q + 2 + k
        · subst e; rw [e1]; exact fun z => h z.2
        · exact hj j (by omega)
theorem cf_freeBlock_2 {F : Nat} {M : Nat → Nat} {g : Nat} (hF : 10 < F) (hM : ∀ n, n < 48 → M n ≤ 1) (hg : g < 3) : ∀ (r k n : Nat), k + r = 3 → r < n → (∀ j, j < 12 * k → ¬ frb M ((12 * g + j) % 36)) →
    s_S_freeBlock_2 F (zz M) n (nI g) (nI k) = some (if sr (fun j => frb M ((12 * g + j) % 36)) 36 < 36 then nI ((12 * g + sr (fun j => frb M ((12 * g + j) % 36)) 36) % 36) else -1) := by
  intro r
  induction r with
  | zero =>
    intro k n hk hn hj
    obtain ⟨n, rfl⟩ : ∃ q, n = q + 1 := ⟨n - 1, by omega⟩
    unfold s_S_freeBlock_2
    have e8 : k = 3 := by omega
    subst e8
    rw [if_pos (nI_le (by omega) (by omega)), sr_none.mpr hj, if_neg (by omega)]
  | succ r ih =>
    intro k n hk hn hj
    obtain ⟨n, rfl⟩ : ∃ q, n = q + 1 := ⟨n - 1, by omega⟩
    unfold s_S_freeBlock_2
    rw [if_neg (nI_ge (by omega) (by omega)), nI_add, pk_rem (a := g + k) (d := 3) (by omega) (by decide) (by decide), pk_mul, nI_add]
    have hj2 : ∀ j, j < 12 * k + 2 + 0 → ¬ frb M ((12 * g + j) % 36) := by
      intro j hj2
      by_cases e : j < 12 * k
      · exact hj j e
      · intro z; have := z.1; omega
    have := cf_freeBlock_21 (F := F) (k2 := s_S_freeBlock_2 F (zz M) n) (q := k) hM (by omega) rfl 10 0 F rfl hF hj2
    rw [Nat.add_zero] at this
    rw [this]
    by_cases h : ∃ j, 0 ≤ j ∧ j < 10 ∧ frb M ((g + k) % 3 * 12 + 2 + j)
    · rw [pif_t h, if_pos]
      obtain ⟨j, _, h1, h2⟩ := h
      refine sr_lt.mpr ⟨12 * k + 2 + j, by omega, ?_⟩
      rw [show (12 * g + (12 * k + 2 + j)) % 36 = (g + k) % 3 * 12 + 2 + j by omega]; exact h2
    · rw [pif_f h]
      refine ih (k + 1) n (by omega) (by omega) (fun j hj3 => ?_)
      by_cases e : j < 12 * k + 2
      · exact hj2 j e
      · intro hf
        refine h ⟨j - 12 * k - 2, Nat.zero_le _, by omega, ?_⟩
        rw [show (g + k) % 3 * 12 + 2 + (j - 12 * k - 2) = (12 * g + j) % 36 by omega]; exact hf
theorem cf_freeBlock {F : Nat} {M : Nat → Nat} {g : Nat} (hF : 10 < F) (hM : ∀ n, n < 48 → M n ≤ 1) (hg : g < 3) : s_S_freeBlock F (zz M) (nI g) = some (if sr (fun j => frb M ((12 * g + j) % 36)) 36 < 36 then nI ((12 * g + sr (fun j => frb M ((12 * g + j) % 36)) 36) % 36) else -1) :=
  cf_freeBlock_2 hF hM hg 3 0 F rfl (by omega) (fun j hj => absurd hj (by omega))
