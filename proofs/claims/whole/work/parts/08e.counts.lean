-- counts over a set of inodes
theorem cn_skip {P : Nat → Prop} {a b : Nat} (h : a ≤ b) (hn : ∀ j, a ≤ j → j < b → ¬ P j) : cn P b = cn P a := by
  induction b with
  | zero => have : a = 0 := by omega
            rw [this]
  | succ b ih =>
    by_cases e : a = b + 1
    · rw [e]
    · rw [cn_f (hn b (by omega) (by omega))]; exact ih (by omega) (fun j h1 h2 => hn j h1 (by omega))
def sm (f : Nat → Nat) : Nat → Nat
  | 0 => 0
  | n + 1 => sm f n + f n
theorem sm_s {f : Nat → Nat} {n : Nat} : sm f (n + 1) = sm f n + f n := rfl
theorem sm_congr {f g : Nat → Nat} {n : Nat} (h : ∀ k, k < n → f k = g k) : sm f n = sm g n := by
  induction n with
  | zero => rfl
  | succ n ih => rw [sm_s, sm_s, h n (by omega), ih (fun k hk => h k (by omega))]
theorem sm_le {f : Nat → Nat} {c n : Nat} (h : ∀ k, k < n → f k ≤ c) : sm f n ≤ n * c := by
  induction n with
  | zero => exact Nat.zero_le _
  | succ n ih =>
    have := ih (fun k hk => h k (by omega))
    have := h n (by omega)
    rw [sm_s, Nat.succ_mul]; omega
noncomputable def EF (T W B : Nat → Nat) (S : Nat → Prop) (i : Nat) : Nat := cn (fun q => S (q / 8) ∧ en T W B (q / 8) (q % 8) ≠ 0 ∧ en T W B (q / 8) (q % 8) % 32 = i) 144
noncomputable def PF (T : Nat → Nat) (S : Nat → Prop) (b : Nat) : Nat := cn (fun q => S (q / 3) ∧ pt T (q / 3) (q % 3) = b) 54
theorem EF_le {T W B : Nat → Nat} {S : Nat → Prop} {i : Nat} : EF T W B S i ≤ 144 := cn_le
theorem PF_le {T : Nat → Nat} {S : Nat → Prop} {b : Nat} : PF T S b ≤ 54 := cn_le
theorem cf_entriesFor_27 {F : Nat} {T W B : Nat → Nat} {k5 : Int32 → Int32 → Int32 → Int32 → Option Int32} {x : Int32} {d i : Nat} (hT : VT T) (hB : ∀ b, b < 36 → B b ≤ 1) (hE : VE T W B) (hd : d < 18) (hi : i < 2 ^ 31) (hS : bt x d = true) : ∀ (r c n : Nat), c + r = 8 → r < n → s_S_entriesFor_27 F (zz T) (zz W) (zz B) k5 n x (nI i) (nI (cn (fun q => bt x (q / 8) = true ∧ en T W B (q / 8) (q % 8) ≠ 0 ∧ en T W B (q / 8) (q % 8) % 32 = i) (8 * d + c))) (nI d) (nI c) = k5 x (nI i) (nI (cn (fun q => bt x (q / 8) = true ∧ en T W B (q / 8) (q % 8) ≠ 0 ∧ en T W B (q / 8) (q % 8) % 32 = i) (8 * (d + 1)))) (nI (d + 1)) := by
  intro r
  induction r with
  | zero =>
    intro c n hc hn
    obtain ⟨n, rfl⟩ : ∃ q, n = q + 1 := ⟨n - 1, by omega⟩
    unfold s_S_entriesFor_27
    rw [if_pos (nI_le (by omega) (by omega)), nI_add, show 8 * (d + 1) = 8 * d + c by omega]
  | succ r ih =>
    intro c n hc hn
    obtain ⟨n, rfl⟩ : ∃ q, n = q + 1 := ⟨n - 1, by omega⟩
    obtain ⟨v1, v2⟩ := hE d c hd (by omega)
    have e1 : (8 * d + c) / 8 = d := by omega
    have e2 : (8 * d + c) % 8 = c := by omega
    have := ih (c + 1) n (by omega) (by omega)
    unfold s_S_entriesFor_27
    rw [if_neg (nI_ge (by omega) (by omega)), bd_e (cf_entry hT hB hd (by omega))]
    by_cases h0 : en T W B d c = 0
    · rw [if_pos (by rw [h0]; rfl), nI_add]
      rw [show 8 * d + (c + 1) = 8 * d + c + 1 by omega, cn_f (by rw [e1, e2]; exact fun q => q.2.1 h0)] at this
      exact this
    · rw [if_neg (fun q => h0 ((nI0 v1).mp q)), pk_rem v1 (by decide) (by decide)]
      by_cases h1 : en T W B d c % 32 = i
      · rw [if_pos (by rw [h1]), nI_add, nI_add]
        rw [show 8 * d + (c + 1) = 8 * d + c + 1 by omega, cn_t (by rw [e1, e2]; exact ⟨hS, h0, h1⟩)] at this
        exact this
      · rw [if_neg (fun q => h1 ((nI_eq (by omega) hi).mp q)), nI_add]
        rw [show 8 * d + (c + 1) = 8 * d + c + 1 by omega, cn_f (by rw [e1, e2]; exact fun q => h1 q.2.2)] at this
        exact this
theorem cf_entriesFor_5 {F : Nat} {T W B : Nat → Nat} {x : Int32} {i : Nat} (hF : 8 < F) (hT : VT T) (hB : ∀ b, b < 36 → B b ≤ 1) (hE : VE T W B) (hi : i < 2 ^ 31) : ∀ (r d n : Nat), d + r = 18 → r < n → s_S_entriesFor_5 F (zz T) (zz W) (zz B) n x (nI i) (nI (cn (fun q => bt x (q / 8) = true ∧ en T W B (q / 8) (q % 8) ≠ 0 ∧ en T W B (q / 8) (q % 8) % 32 = i) (8 * d))) (nI d) = some (nI (EF T W B (fun j => bt x j = true) i)) := by
  intro r
  induction r with
  | zero =>
    intro d n hd hn
    obtain ⟨n, rfl⟩ : ∃ q, n = q + 1 := ⟨n - 1, by omega⟩
    unfold s_S_entriesFor_5
    rw [if_pos (nI_le (by omega) (by omega)), show d = 18 by omega]; rfl
  | succ r ih =>
    intro d n hd hn
    obtain ⟨n, rfl⟩ : ∃ q, n = q + 1 := ⟨n - 1, by omega⟩
    have := ih (d + 1) n (by omega) (by omega)
    unfold s_S_entriesFor_5
    rw [if_neg (nI_ge (by omega) (by omega)), bd_e (cf_has (by omega))]
    by_cases h : bt x d = true
    · rw [if_neg (fun q => if01.mp q h)]
      rw [← this]
      exact cf_entriesFor_27 (F := F) (k5 := s_S_entriesFor_5 F (zz T) (zz W) (zz B) n) hT hB hE (by omega) hi h 8 0 F rfl hF
    · rw [if_pos (if01.mpr h), nI_add]
      rw [cn_skip (a := 8 * d) (b := 8 * (d + 1)) (by omega) (fun j h1 h2 q => h (by rw [← show j / 8 = d by omega]; exact q.1))] at this
      exact this
theorem cf_entriesFor {F : Nat} {T W B : Nat → Nat} {x : Int32} {i : Nat} (hF : 18 < F) (hT : VT T) (hB : ∀ b, b < 36 → B b ≤ 1) (hE : VE T W B) (hi : i < 2 ^ 31) : s_S_entriesFor F (zz T) (zz W) (zz B) x (nI i) = some (nI (EF T W B (fun j => bt x j = true) i)) :=
  cf_entriesFor_5 (by omega) hT hB hE hi 18 0 F rfl hF
theorem cf_pointersTo_15 {F : Nat} {T : Nat → Nat} {k5 : Int32 → Int32 → Int32 → Int32 → Option Int32} {x : Int32} {d b : Nat} (hT : VT T) (hd : d < 18) (hb : b < 2 ^ 31) : ∀ (r c n : Nat), c + r = 3 → r < n → s_S_pointersTo_15 F (zz T) k5 n x (nI b) (nI (cn (fun q => bt x (q / 3) = true ∧ pt T (q / 3) (q % 3) = b) (3 * d + c))) (nI d) (nI c) = k5 x (nI b) (nI (cn (fun q => bt x (q / 3) = true ∧ pt T (q / 3) (q % 3) = b) (3 * (d + 1)))) (nI (d + 1)) := by
  intro r
  induction r with
  | zero =>
    intro c n hc hn
    obtain ⟨n, rfl⟩ : ∃ q, n = q + 1 := ⟨n - 1, by omega⟩
    unfold s_S_pointersTo_15
    rw [if_pos (nI_le (by omega) (by omega)), nI_add, show 3 * (d + 1) = 3 * d + c by omega]
  | succ r ih =>
    intro c n hc hn
    obtain ⟨n, rfl⟩ : ∃ q, n = q + 1 := ⟨n - 1, by omega⟩
    have v1 := VT_p hT hd (k := c) (by omega)
    have e1 : (3 * d + c) / 3 = d := by omega
    have e2 : (3 * d + c) % 3 = c := by omega
    have := ih (c + 1) n (by omega) (by omega)
    unfold s_S_pointersTo_15
    rw [if_neg (nI_ge (by omega) (by omega)), bd_e (cf_has (by omega))]
    by_cases h0 : bt x d = true
    · rw [if_neg (fun q => if01.mp q h0), bd_e (cf_pointer hd (by omega))]
      by_cases h1 : pt T d c = b
      · rw [if_pos (by rw [h1]), nI_add, nI_add]
        rw [show 3 * d + (c + 1) = 3 * d + c + 1 by omega, cn_t (by rw [e1, e2]; exact ⟨h0, h1⟩)] at this
        exact this
      · rw [if_neg (fun q => h1 ((nI_eq (by omega) hb).mp q)), nI_add]
        rw [show 3 * d + (c + 1) = 3 * d + c + 1 by omega, cn_f (by rw [e1, e2]; exact fun q => h1 q.2)] at this
        exact this
    · rw [if_pos (if01.mpr h0), nI_add]
      rw [show 3 * d + (c + 1) = 3 * d + c + 1 by omega, cn_f (by rw [e1, e2]; exact fun q => h0 q.1)] at this
      exact this
theorem cf_pointersTo_5 {F : Nat} {T : Nat → Nat} {x : Int32} {b : Nat} (hF : 3 < F) (hT : VT T) (hb : b < 2 ^ 31) : ∀ (r d n : Nat), d + r = 18 → r < n → s_S_pointersTo_5 F (zz T) n x (nI b) (nI (cn (fun q => bt x (q / 3) = true ∧ pt T (q / 3) (q % 3) = b) (3 * d))) (nI d) = some (nI (PF T (fun j => bt x j = true) b)) := by
  intro r
  induction r with
  | zero =>
    intro d n hd hn
    obtain ⟨n, rfl⟩ : ∃ q, n = q + 1 := ⟨n - 1, by omega⟩
    unfold s_S_pointersTo_5
    rw [if_pos (nI_le (by omega) (by omega)), show d = 18 by omega]; rfl
  | succ r ih =>
    intro d n hd hn
    obtain ⟨n, rfl⟩ : ∃ q, n = q + 1 := ⟨n - 1, by omega⟩
    have := ih (d + 1) n (by omega) (by omega)
    unfold s_S_pointersTo_5
    rw [if_neg (nI_ge (by omega) (by omega)), ← this]
    exact cf_pointersTo_15 (F := F) (k5 := s_S_pointersTo_5 F (zz T) n) hT (by omega) hb 3 0 F rfl hF
theorem cf_pointersTo {F : Nat} {T : Nat → Nat} {x : Int32} {b : Nat} (hF : 18 < F) (hT : VT T) (hb : b < 2 ^ 31) : s_S_pointersTo F (zz T) x (nI b) = some (nI (PF T (fun j => bt x j = true) b)) :=
  cf_pointersTo_5 (by omega) hT hb 18 0 F rfl hF
noncomputable def dE (M T W B : Nat → Nat) (S : Nat → Prop) (i : Nat) : Nat := pif (kd T i = 0 ∨ im M i = 0) (EF T W B S i) 0
theorem cf_badEntries_4 {F : Nat} {M T W B : Nat → Nat} {x : Int32} (hF : 18 < F) (hM : ∀ n, n < 48 → M n ≤ 1) (hT : VT T) (hB : ∀ b, b < 36 → B b ≤ 1) (hE : VE T W B) : ∀ (r i n : Nat), i + r = 18 → r < n → s_S_badEntries_4 F (zz M) (zz T) (zz W) (zz B) n x (nI (sm (dE M T W B (fun j => bt x j = true)) i)) (nI i) = some (nI (sm (dE M T W B (fun j => bt x j = true)) 18)) := by
  intro r
  induction r with
  | zero =>
    intro d n hd hn
    obtain ⟨n, rfl⟩ : ∃ q, n = q + 1 := ⟨n - 1, by omega⟩
    unfold s_S_badEntries_4
    rw [if_pos (nI_le (by omega) (by omega)), show d = 18 by omega]
  | succ r ih =>
    intro d n hd hn
    obtain ⟨n, rfl⟩ : ∃ q, n = q + 1 := ⟨n - 1, by omega⟩
    have := ih (d + 1) n (by omega) (by omega)
    have hk := VT_k hT (i := d) (by omega)
    have hm : im M d ≤ 1 := hM _ (by omega)
    unfold s_S_badEntries_4 s_S_badEntries_26
    rw [if_neg (nI_ge (by omega) (by omega)), bd_e (cf_kind (by omega)), bd_e (cf_inodeMark (by omega)), bd_e (cf_entriesFor hF hT hB hE (by omega)), nI_add, nI_add]
    rw [sm_s] at this
    unfold dE at this ⊢
    by_cases h0 : kd T d = 0
    · rw [pif_t (Or.inl h0)] at this
      rw [if_pos (by rw [h0]; rfl)]; exact this
    · rw [if_neg (fun q => h0 ((nI0 (by omega)).mp q))]
      by_cases h1 : im M d = 0
      · rw [pif_t (Or.inr h1)] at this
        rw [if_pos (by rw [h1]; rfl)]; exact this
      · rw [pif_f (fun q => q.elim h0 h1)] at this
        rw [if_neg (fun q => h1 ((nI0 (by omega)).mp q))]; exact this
theorem cf_badEntries {F : Nat} {M T W B : Nat → Nat} {x : Int32} (hF : 18 < F) (hM : ∀ n, n < 48 → M n ≤ 1) (hT : VT T) (hB : ∀ b, b < 36 → B b ≤ 1) (hE : VE T W B) : s_S_badEntries F (zz M) (zz T) (zz W) (zz B) x = some (nI (sm (dE M T W B (fun j => bt x j = true)) 18)) :=
  cf_badEntries_4 hF hM hT hB hE 18 0 F rfl hF
noncomputable def dP (M T : Nat → Nat) (S : Nat → Prop) (b : Nat) : Nat := pif (2 ≤ b % 12 ∧ bm M b = 0) (PF T S b) 0
theorem cf_badPointers_4 {F : Nat} {M T : Nat → Nat} {x : Int32} (hF : 18 < F) (hM : ∀ n, n < 48 → M n ≤ 1) (hT : VT T) : ∀ (r b n : Nat), b + r = 36 → r < n → s_S_badPointers_4 F (zz M) (zz T) n x (nI (sm (dP M T (fun j => bt x j = true)) b)) (nI b) = some (nI (sm (dP M T (fun j => bt x j = true)) 36)) := by
  intro r
  induction r with
  | zero =>
    intro d n hd hn
    obtain ⟨n, rfl⟩ : ∃ q, n = q + 1 := ⟨n - 1, by omega⟩
    unfold s_S_badPointers_4
    rw [if_pos (nI_le (by omega) (by omega)), show d = 36 by omega]
  | succ r ih =>
    intro d n hd hn
    obtain ⟨n, rfl⟩ : ∃ q, n = q + 1 := ⟨n - 1, by omega⟩
    have := ih (d + 1) n (by omega) (by omega)
    unfold s_S_badPointers_4
    rw [if_neg (nI_ge (by omega) (by omega)), bd_e (cf_isData (by omega)), nI_add]
    rw [sm_s] at this
    unfold dP at this ⊢
    by_cases h0 : 2 ≤ d % 12
    · have hm : bm M d ≤ 1 := hM _ (by omega)
      rw [if_neg (fun q => if01.mp q h0), bd_e (cf_blockMark ⟨by omega, h0⟩), bd_e (cf_pointersTo hF hT (by omega)), nI_add]
      by_cases h1 : bm M d = 0
      · rw [pif_t ⟨h0, h1⟩] at this
        rw [if_pos (by rw [h1]; rfl)]; exact this
      · rw [pif_f (fun q => h1 q.2)] at this
        rw [if_neg (fun q => h1 ((nI0 (by omega)).mp q))]; exact this
    · rw [pif_f (fun q => h0 q.1)] at this
      rw [if_pos (if01.mpr h0)]; exact this
theorem cf_badPointers {F : Nat} {M T : Nat → Nat} {x : Int32} (hF : 36 < F) (hM : ∀ n, n < 48 → M n ≤ 1) (hT : VT T) : s_S_badPointers F (zz M) (zz T) x = some (nI (sm (dP M T (fun j => bt x j = true)) 36)) :=
  cf_badPointers_4 (by omega) hM hT 36 0 F rfl hF
theorem cf_sharedBlocks_4 {F : Nat} {T : Nat → Nat} {x : Int32} (hF : 18 < F) (hT : VT T) : ∀ (r b n : Nat), b + r = 36 → r < n → s_S_sharedBlocks_4 F (zz T) n x (nI (cn (fun b => 2 ≤ b % 12 ∧ 1 < PF T (fun j => bt x j = true) b) b)) (nI b) = some (nI (cn (fun b => 2 ≤ b % 12 ∧ 1 < PF T (fun j => bt x j = true) b) 36)) := by
  intro r
  induction r with
  | zero =>
    intro d n hd hn
    obtain ⟨n, rfl⟩ : ∃ q, n = q + 1 := ⟨n - 1, by omega⟩
    unfold s_S_sharedBlocks_4
    rw [if_pos (nI_le (by omega) (by omega)), show d = 36 by omega]
  | succ r ih =>
    intro d n hd hn
    obtain ⟨n, rfl⟩ : ∃ q, n = q + 1 := ⟨n - 1, by omega⟩
    have := ih (d + 1) n (by omega) (by omega)
    have hp := PF_le (T := T) (S := fun j => bt x j = true) (b := d)
    unfold s_S_sharedBlocks_4
    rw [if_neg (nI_ge (by omega) (by omega)), bd_e (cf_isData (by omega)), nI_add, nI_add]
    by_cases h0 : 2 ≤ d % 12
    · rw [if_neg (fun q => if01.mp q h0), bd_e (cf_pointersTo hF hT (by omega))]
      by_cases h1 : 1 < PF T (fun j => bt x j = true) d
      · rw [cn_t (P := fun b => 2 ≤ b % 12 ∧ 1 < PF T (fun j => bt x j = true) b) ⟨h0, h1⟩] at this
        rw [if_neg (nI_ge h1 (by omega))]; exact this
      · rw [cn_f (P := fun b => 2 ≤ b % 12 ∧ 1 < PF T (fun j => bt x j = true) b) (fun q => h1 q.2)] at this
        rw [if_pos (nI_le (by omega) (by omega))]; exact this
    · rw [cn_f (P := fun b => 2 ≤ b % 12 ∧ 1 < PF T (fun j => bt x j = true) b) (fun q => h0 q.1)] at this
      rw [if_pos (if01.mpr h0)]; exact this
theorem cf_sharedBlocks {F : Nat} {T : Nat → Nat} {x : Int32} (hF : 36 < F) (hT : VT T) : s_S_sharedBlocks F (zz T) x = some (nI (cn (fun b => 2 ≤ b % 12 ∧ 1 < PF T (fun j => bt x j = true) b) 36)) :=
  cf_sharedBlocks_4 (by omega) hT 36 0 F rfl hF
theorem cf_uselessBlocks_4 {F : Nat} {M T : Nat → Nat} {x : Int32} (hF : 18 < F) (hM : ∀ n, n < 48 → M n ≤ 1) (hT : VT T) : ∀ (r b n : Nat), b + r = 36 → r < n → s_S_uselessBlocks_4 F (zz M) (zz T) n x (nI (cn (fun b => 2 ≤ b % 12 ∧ bm M b ≠ 0 ∧ PF T (fun j => bt x j = true) b = 0) b)) (nI b) = some (nI (cn (fun b => 2 ≤ b % 12 ∧ bm M b ≠ 0 ∧ PF T (fun j => bt x j = true) b = 0) 36)) := by
  intro r
  induction r with
  | zero =>
    intro d n hd hn
    obtain ⟨n, rfl⟩ : ∃ q, n = q + 1 := ⟨n - 1, by omega⟩
    unfold s_S_uselessBlocks_4
    rw [if_pos (nI_le (by omega) (by omega)), show d = 36 by omega]
  | succ r ih =>
    intro d n hd hn
    obtain ⟨n, rfl⟩ : ∃ q, n = q + 1 := ⟨n - 1, by omega⟩
    have := ih (d + 1) n (by omega) (by omega)
    have hp := PF_le (T := T) (S := fun j => bt x j = true) (b := d)
    unfold s_S_uselessBlocks_4
    rw [if_neg (nI_ge (by omega) (by omega)), bd_e (cf_isData (by omega)), nI_add, nI_add]
    by_cases h0 : 2 ≤ d % 12
    · have hm : bm M d ≤ 1 := hM _ (by omega)
      rw [if_neg (fun q => if01.mp q h0), bd_e (cf_blockMark ⟨by omega, h0⟩), bd_e (cf_pointersTo hF hT (by omega))]
      by_cases h1 : bm M d = 0
      · rw [cn_f (P := fun b => 2 ≤ b % 12 ∧ bm M b ≠ 0 ∧ PF T (fun j => bt x j = true) b = 0) (fun q => q.2.1 h1)] at this
        rw [if_pos (by rw [h1]; rfl)]; exact this
      · rw [if_neg (fun q => h1 ((nI0 (by omega)).mp q))]
        by_cases h2 : PF T (fun j => bt x j = true) d = 0
        · rw [cn_t (P := fun b => 2 ≤ b % 12 ∧ bm M b ≠ 0 ∧ PF T (fun j => bt x j = true) b = 0) ⟨h0, h1, h2⟩] at this
          rw [if_pos (by rw [h2]; rfl)]; exact this
        · rw [cn_f (P := fun b => 2 ≤ b % 12 ∧ bm M b ≠ 0 ∧ PF T (fun j => bt x j = true) b = 0) (fun q => h2 q.2.2)] at this
          rw [if_neg (fun q => h2 ((nI0 (by omega)).mp q))]; exact this
    · rw [cn_f (P := fun b => 2 ≤ b % 12 ∧ bm M b ≠ 0 ∧ PF T (fun j => bt x j = true) b = 0) (fun q => h0 q.1)] at this
      rw [if_pos (if01.mpr h0)]; exact this
theorem cf_uselessBlocks {F : Nat} {M T : Nat → Nat} {x : Int32} (hF : 36 < F) (hM : ∀ n, n < 48 → M n ≤ 1) (hT : VT T) : s_S_uselessBlocks F (zz M) (zz T) x = some (nI (cn (fun b => 2 ≤ b % 12 ∧ bm M b ≠ 0 ∧ PF T (fun j => bt x j = true) b = 0) 36)) :=
  cf_uselessBlocks_4 (by omega) hM hT 36 0 F rfl hF
theorem cf_uselessInodes_4 {F : Nat} {M T : Nat → Nat} {x : Int32} (hM : ∀ n, n < 48 → M n ≤ 1) (hT : VT T) : ∀ (r i n : Nat), i + r = 18 → r < n → s_S_uselessInodes_4 F (zz M) (zz T) n x (nI (cn (fun i => ¬ bt x i = true ∧ (kd T i ≠ 0 ∨ im M i ≠ 0)) i)) (nI i) = some (nI (cn (fun i => ¬ bt x i = true ∧ (kd T i ≠ 0 ∨ im M i ≠ 0)) 18)) := by
  intro r
  induction r with
  | zero =>
    intro d n hd hn
    obtain ⟨n, rfl⟩ : ∃ q, n = q + 1 := ⟨n - 1, by omega⟩
    unfold s_S_uselessInodes_4
    rw [if_pos (nI_le (by omega) (by omega)), show d = 18 by omega]
  | succ r ih =>
    intro d n hd hn
    obtain ⟨n, rfl⟩ : ∃ q, n = q + 1 := ⟨n - 1, by omega⟩
    have := ih (d + 1) n (by omega) (by omega)
    have hk := VT_k hT (i := d) (by omega)
    have hm : im M d ≤ 1 := hM _ (by omega)
    unfold s_S_uselessInodes_4 s_S_uselessInodes_34
    rw [if_neg (nI_ge (by omega) (by omega)), bd_e (cf_has (by omega)), bd_e (cf_kind (by omega)), bd_e (cf_inodeMark (by omega)), nI_add, nI_add]
    by_cases h0 : bt x d = true
    · rw [cn_f (P := fun i => ¬ bt x i = true ∧ (kd T i ≠ 0 ∨ im M i ≠ 0)) (fun q => q.1 h0)] at this
      rw [if_neg (fun q => if01.mp q h0)]; exact this
    · rw [if_pos (if01.mpr h0)]
      by_cases h1 : kd T d = 0
      · rw [if_pos (by rw [h1]; rfl)]
        by_cases h2 : im M d = 0
        · rw [cn_f (P := fun i => ¬ bt x i = true ∧ (kd T i ≠ 0 ∨ im M i ≠ 0)) (fun q => q.2.elim (fun z => z h1) (fun z => z h2))] at this
          rw [if_pos (by rw [h2]; rfl)]; exact this
        · rw [cn_t (P := fun i => ¬ bt x i = true ∧ (kd T i ≠ 0 ∨ im M i ≠ 0)) ⟨h0, Or.inr h2⟩] at this
          rw [if_neg (fun q => h2 ((nI0 (by omega)).mp q))]; exact this
      · rw [cn_t (P := fun i => ¬ bt x i = true ∧ (kd T i ≠ 0 ∨ im M i ≠ 0)) ⟨h0, Or.inl h1⟩] at this
        rw [if_neg (fun q => h1 ((nI0 (by omega)).mp q))]; exact this
theorem cf_uselessInodes {F : Nat} {M T : Nat → Nat} {x : Int32} (hF : 18 < F) (hM : ∀ n, n < 48 → M n ≤ 1) (hT : VT T) : s_S_uselessInodes F (zz M) (zz T) x = some (nI (cn (fun i => ¬ bt x i = true ∧ (kd T i ≠ 0 ∨ im M i ≠ 0)) 18)) :=
  cf_uselessInodes_4 hM hT 18 0 F rfl hF
theorem sg_1 {a b : Nat} (ha : a < 2 ^ 30) (hb : b < 2 ^ 30) : (nI a - nI b) * nI 1 ≤ 0 ↔ a ≤ b := by
  have h := pk_sub_toInt ha hb
  have e : (nI a - nI b) * nI 1 = nI a - nI b := by rw [show nI 1 = 1 from rfl, Int32.mul_one]
  rw [e, Int32.le_iff_toInt_le, h]
  show (a : Int) - b ≤ 0 ↔ _
  omega
theorem sg_m {a b : Nat} (ha : a < 2 ^ 30) (hb : b < 2 ^ 30) : (nI a - nI b) * (-1) ≤ 0 ↔ b ≤ a := by
  have h := pk_sub_toInt hb ha
  have e : (nI a - nI b) * (-1) = nI b - nI a := by rw [Int32.mul_neg, Int32.mul_one, Int32.neg_sub]
  rw [e, Int32.le_iff_toInt_le, h]
  show (b : Int) - a ≤ 0 ↔ _
  omega
theorem cf_wrongLinks_5 {F : Nat} {T W B : Nat → Nat} {x sg : Int32} {R : Nat → Nat → Prop} (hF : 18 < F) (hT : VT T) (hB : ∀ b, b < 36 → B b ≤ 1) (hE : VE T W B) (hsg : ∀ a b, a < 2 ^ 30 → b < 2 ^ 30 → ((nI a - nI b) * sg ≤ 0 ↔ ¬ R a b)) : ∀ (r i n : Nat), i + r = 18 → r < n → 1 ≤ i → s_S_wrongLinks_5 F (zz T) (zz W) (zz B) n x sg (nI (cn (fun i => 0 < i ∧ bt x i = true ∧ R (lk T i) (EF T W B (fun j => bt x j = true) i)) i)) (nI i) = some (nI (cn (fun i => 0 < i ∧ bt x i = true ∧ R (lk T i) (EF T W B (fun j => bt x j = true) i)) 18)) := by
  intro r
  induction r with
  | zero =>
    intro d n hd hn h1
    obtain ⟨n, rfl⟩ : ∃ q, n = q + 1 := ⟨n - 1, by omega⟩
    unfold s_S_wrongLinks_5
    rw [if_pos (nI_le (by omega) (by omega)), show d = 18 by omega]
  | succ r ih =>
    intro d n hd hn h1
    obtain ⟨n, rfl⟩ : ∃ q, n = q + 1 := ⟨n - 1, by omega⟩
    have := ih (d + 1) n (by omega) (by omega) (by omega)
    have hp := EF_le (T := T) (W := W) (B := B) (S := fun j => bt x j = true) (i := d)
    have hl := (hT d (by omega)).2.1
    unfold s_S_wrongLinks_5
    rw [if_neg (nI_ge (by omega) (by omega)), bd_e (cf_has (by omega)), nI_add, nI_add]
    by_cases h0 : bt x d = true
    · rw [if_neg (fun q => if01.mp q h0), bd_e (cf_links (by omega)), bd_e (cf_entriesFor hF hT hB hE (by omega))]
      by_cases h2 : R (lk T d) (EF T W B (fun j => bt x j = true) d)
      · rw [cn_t (P := fun i => 0 < i ∧ bt x i = true ∧ R (lk T i) (EF T W B (fun j => bt x j = true) i)) ⟨by omega, h0, h2⟩] at this
        rw [if_neg (fun q => (hsg _ _ hl (by omega)).mp q h2)]; exact this
      · rw [cn_f (P := fun i => 0 < i ∧ bt x i = true ∧ R (lk T i) (EF T W B (fun j => bt x j = true) i)) (fun q => h2 q.2.2)] at this
        rw [if_pos ((hsg _ _ hl (by omega)).mpr h2)]; exact this
    · rw [cn_f (P := fun i => 0 < i ∧ bt x i = true ∧ R (lk T i) (EF T W B (fun j => bt x j = true) i)) (fun q => h0 q.2.1)] at this
      rw [if_pos (if01.mpr h0)]; exact this
theorem cf_wrongLinks {F : Nat} {T W B : Nat → Nat} {x sg : Int32} {R : Nat → Nat → Prop} (hF : 18 < F) (hT : VT T) (hB : ∀ b, b < 36 → B b ≤ 1) (hE : VE T W B) (hsg : ∀ a b, a < 2 ^ 30 → b < 2 ^ 30 → ((nI a - nI b) * sg ≤ 0 ↔ ¬ R a b)) : s_S_wrongLinks F (zz T) (zz W) (zz B) x sg = some (nI (cn (fun i => 0 < i ∧ bt x i = true ∧ R (lk T i) (EF T W B (fun j => bt x j = true) i)) 18)) := by
  have := cf_wrongLinks_5 (x := x) hF hT hB hE hsg 17 1 F rfl (by omega) (by omega)
  rw [cn_f (P := fun i => 0 < i ∧ bt x i = true ∧ R (lk T i) (EF T W B (fun j => bt x j = true) i)) (n := 0) (fun q => absurd q.1 (Nat.lt_irrefl _))] at this
  exact this
