-- cells, copies, comparisons
def cl (M T W : Nat → Nat) (b c : Nat) : Nat := if b % 12 = 0 then M (b / 12 * 16 + c) else if b % 12 = 1 then T (b / 12 * 30 + c) else W (8 * b + c)
theorem sz_le {b : Nat} : sz b ≤ 30 := by unfold sz; split <;> (try split) <;> omega
theorem cf_cellCount {b : Nat} (hb : b < 36) : s_V_cellCount (nI b) = some (nI (sz b)) := by
  unfold s_V_cellCount sz
  rw [pk_rem (by omega) (by decide) (by decide)]
  by_cases h0 : b % 12 = 0
  · rw [if_pos (by rw [h0]; rfl), if_pos h0]
  · rw [if_neg (fun q => h0 ((nI0 (by omega)).mp q)), if_neg h0]
    by_cases h1 : b % 12 = 1
    · rw [if_pos (by rw [h1]), if_pos h1]
    · rw [if_neg (fun q => h1 ((nI_eq (by omega) (by decide)).mp q)), if_neg h1]
theorem cf_cell {M T W : Nat → Nat} {b c : Nat} (hb : b < 36) (hc : c < sz b) : s_S_cell (zz M) (zz T) (zz W) (nI b) (nI c) = some (nI (cl M T W b c)) := by
  have := sz_le (b := b)
  unfold s_S_cell cl
  rw [pk_rem (a := b) (d := 12) (by omega) (by decide) (by decide), pk_div (a := b) (d := 12) (by omega) (by decide) (by decide)]
  by_cases h0 : b % 12 = 0
  · have := sz_0 h0
    rw [if_pos (by rw [h0]; rfl), if_pos h0, gr_e (b / 12 * 16 + c) (by rw [pk_mul, nI_add]) (by omega) (by decide)]
  · rw [if_neg (fun q => h0 ((nI0 (by omega)).mp q)), if_neg h0]
    by_cases h1 : b % 12 = 1
    · have := sz_1 h1
      rw [if_pos (by rw [h1]), if_pos h1, gr_e (b / 12 * 30 + c) (by rw [pk_mul, nI_add]) (by omega) (by decide)]
    · have := sz_2 (b := b) (by omega)
      rw [if_neg (fun q => h1 ((nI_eq (by omega) (by decide)).mp q)), if_neg h1, gr_e (8 * b + c) (by rw [pk_mul, nI_add]; exact nIe (by omega)) (by omega) (by decide)]
-- a stretch of one array into another
def cp (M M1 : Nat → Nat) (lo k : Nat) : Nat → Nat := fun n => if lo ≤ n ∧ n < lo + k then M1 n else M n
theorem cp_0 {M M1 : Nat → Nat} {lo : Nat} : cp M M1 lo 0 = M := by
  funext n; unfold cp; rw [if_neg (by omega)]
theorem cp_s {M M1 : Nat → Nat} {lo k : Nat} : up (cp M M1 lo k) (lo + k) (M1 (lo + k)) = cp M M1 lo (k + 1) := by
  funext n
  by_cases e : n = lo + k
  · subst e; rw [up_s]; unfold cp; rw [if_pos (by omega)]
  · rw [up_n e]; unfold cp
    by_cases h : lo ≤ n ∧ n < lo + k
    · rw [if_pos h, if_pos (by omega)]
    · rw [if_neg h, if_neg (by omega)]
theorem cf_setCell_0 {M T W : Nat → Nat} {b c v : Nat} (hb : b < 36) (h0 : b % 12 = 0) (hc : c < 16) : s_S_setCell (nI b) (nI c) (nI v) (zz M) (zz T) (zz W) = some (zz (up M (b / 12 * 16 + c) v), zz T, zz W) := by
  unfold s_S_setCell
  rw [pk_rem (a := b) (d := 12) (by omega) (by decide) (by decide), pk_div (a := b) (d := 12) (by omega) (by decide) (by decide), if_pos (by rw [h0]; rfl), pk_mul, nI_add, ga_e (b / 12 * 16 + c) rfl (by omega) (by decide), nI_clamp (by omega), zz_up]
theorem cf_setCell_1 {M T W : Nat → Nat} {b c v : Nat} (hb : b < 36) (h1 : b % 12 = 1) (hc : c < 30) : s_S_setCell (nI b) (nI c) (nI v) (zz M) (zz T) (zz W) = some (zz M, zz (up T (b / 12 * 30 + c) v), zz W) := by
  unfold s_S_setCell
  rw [pk_rem (a := b) (d := 12) (by omega) (by decide) (by decide), pk_div (a := b) (d := 12) (by omega) (by decide) (by decide), if_neg (fun q => by have := (nI0 (by omega)).mp q; omega), if_pos (by rw [h1]), pk_mul (b / 12) 30, nI_add, ga_e (b / 12 * 30 + c) rfl (by omega) (by decide), nI_clamp (by omega), zz_up]
theorem cf_setCell_2 {M T W : Nat → Nat} {b c v : Nat} (hb : isD b) (hc : c < 8) : s_S_setCell (nI b) (nI c) (nI v) (zz M) (zz T) (zz W) = some (zz M, zz T, zz (up W (8 * b + c) v)) := by
  have h1 := hb.1
  have h2 := hb.2
  unfold s_S_setCell
  rw [pk_rem (a := b) (d := 12) (by omega) (by decide) (by decide), pk_div (a := b) (d := 12) (by omega) (by decide) (by decide), if_neg (fun q => by have := (nI0 (by omega)).mp q; omega), if_neg (fun q => by have := (nI_eq (by omega) (by decide)).mp q; omega), show nI b * nI 8 + nI c = nI (8 * b + c) by rw [pk_mul, nI_add]; exact nIe (by omega), ga_e (8 * b + c) rfl (by omega) (by decide), nI_clamp (by omega), zz_up]
theorem cf_copyBlock_8_0 {F : Nat} {M T W M1 T1 W1 : Nat → Nat} {b : Nat} (hb : b < 36) (h0 : b % 12 = 0) : ∀ (r k n : Nat), k + r = 16 → r < n → s_S_copyBlock_8 F (zz M1) (zz T1) (zz W1) n (nI b) (nI 16) (nI k) (zz (cp M M1 (b / 12 * 16) k)) (zz T) (zz W) = some (zz (cp M M1 (b / 12 * 16) 16), zz T, zz W) := by
  intro r
  induction r with
  | zero =>
    intro k n hk hn
    obtain ⟨n, rfl⟩ : ∃ q, n = q + 1 := ⟨n - 1, by omega⟩
    unfold s_S_copyBlock_8
    rw [if_pos (nI_le (by omega) (by omega)), show k = 16 by omega]
  | succ r ih =>
    intro k n hk hn
    obtain ⟨n, rfl⟩ : ∃ q, n = q + 1 := ⟨n - 1, by omega⟩
    unfold s_S_copyBlock_8
    rw [if_neg (nI_ge (by omega) (by omega)), bd_e (cf_cell hb (by rw [sz_0 h0]; omega)), bd_e (cf_setCell_0 hb h0 (by omega)), nI_add]
    have := ih (k + 1) n (by omega) (by omega)
    rw [← cp_s] at this
    unfold cl
    rw [if_pos h0]
    exact this
theorem cf_copyBlock_8_1 {F : Nat} {M T W M1 T1 W1 : Nat → Nat} {b : Nat} (hb : b < 36) (h0 : b % 12 = 1) : ∀ (r k n : Nat), k + r = 30 → r < n → s_S_copyBlock_8 F (zz M1) (zz T1) (zz W1) n (nI b) (nI 30) (nI k) (zz M) (zz (cp T T1 (b / 12 * 30) k)) (zz W) = some (zz M, zz (cp T T1 (b / 12 * 30) 30), zz W) := by
  intro r
  induction r with
  | zero =>
    intro k n hk hn
    obtain ⟨n, rfl⟩ : ∃ q, n = q + 1 := ⟨n - 1, by omega⟩
    unfold s_S_copyBlock_8
    rw [if_pos (nI_le (by omega) (by omega)), show k = 30 by omega]
  | succ r ih =>
    intro k n hk hn
    obtain ⟨n, rfl⟩ : ∃ q, n = q + 1 := ⟨n - 1, by omega⟩
    unfold s_S_copyBlock_8
    rw [if_neg (nI_ge (by omega) (by omega)), bd_e (cf_cell hb (by rw [sz_1 h0]; omega)), bd_e (cf_setCell_1 hb h0 (by omega)), nI_add]
    have := ih (k + 1) n (by omega) (by omega)
    rw [← cp_s] at this
    unfold cl
    rw [if_neg (by omega), if_pos h0]
    exact this
theorem cf_copyBlock_8_2 {F : Nat} {M T W M1 T1 W1 : Nat → Nat} {b : Nat} (hb : isD b) : ∀ (r k n : Nat), k + r = 8 → r < n → s_S_copyBlock_8 F (zz M1) (zz T1) (zz W1) n (nI b) (nI 8) (nI k) (zz M) (zz T) (zz (cp W W1 (8 * b) k)) = some (zz M, zz T, zz (cp W W1 (8 * b) 8)) := by
  have h1 := hb.1
  have h2 := hb.2
  intro r
  induction r with
  | zero =>
    intro k n hk hn
    obtain ⟨n, rfl⟩ : ∃ q, n = q + 1 := ⟨n - 1, by omega⟩
    unfold s_S_copyBlock_8
    rw [if_pos (nI_le (by omega) (by omega)), show k = 8 by omega]
  | succ r ih =>
    intro k n hk hn
    obtain ⟨n, rfl⟩ : ∃ q, n = q + 1 := ⟨n - 1, by omega⟩
    unfold s_S_copyBlock_8
    rw [if_neg (nI_ge (by omega) (by omega)), bd_e (cf_cell h1 (by rw [sz_2 h2]; omega)), bd_e (cf_setCell_2 hb (by omega)), nI_add]
    have := ih (k + 1) n (by omega) (by omega)
    rw [← cp_s] at this
    unfold cl
    rw [if_neg (by omega), if_neg (by omega)]
    exact this
theorem cf_copyBlock_0 {F : Nat} {M T W M1 T1 W1 : Nat → Nat} {b : Nat} (hF : 30 < F) (hb : b < 36) (h : b % 12 = 0) : s_S_copyBlock F (zz M1) (zz T1) (zz W1) (nI b) (zz M) (zz T) (zz W) = some (zz (cp M M1 (b / 12 * 16) 16), zz T, zz W) := by
  unfold s_S_copyBlock
  rw [bd_e (cf_cellCount hb), sz_0 h]
  have := cf_copyBlock_8_0 (F := F) (M := M) (T := T) (W := W) (M1 := M1) (T1 := T1) (W1 := W1) hb h 16 0 F rfl (by omega)
  rw [cp_0] at this; exact this
theorem cf_copyBlock_1 {F : Nat} {M T W M1 T1 W1 : Nat → Nat} {b : Nat} (hF : 30 < F) (hb : b < 36) (h : b % 12 = 1) : s_S_copyBlock F (zz M1) (zz T1) (zz W1) (nI b) (zz M) (zz T) (zz W) = some (zz M, zz (cp T T1 (b / 12 * 30) 30), zz W) := by
  unfold s_S_copyBlock
  rw [bd_e (cf_cellCount hb), sz_1 h]
  have := cf_copyBlock_8_1 (F := F) (M := M) (T := T) (W := W) (M1 := M1) (T1 := T1) (W1 := W1) hb h 30 0 F rfl (by omega)
  rw [cp_0] at this; exact this
theorem cf_copyBlock_2 {F : Nat} {M T W M1 T1 W1 : Nat → Nat} {b : Nat} (hF : 30 < F) (hb : isD b) : s_S_copyBlock F (zz M1) (zz T1) (zz W1) (nI b) (zz M) (zz T) (zz W) = some (zz M, zz T, zz (cp W W1 (8 * b) 8)) := by
  unfold s_S_copyBlock
  rw [bd_e (cf_cellCount hb.1), sz_2 hb.2]
  have := cf_copyBlock_8_2 (F := F) (M := M) (T := T) (W := W) (M1 := M1) (T1 := T1) (W1 := W1) hb 8 0 F rfl (by omega)
  rw [cp_0] at this; exact this
theorem nI32 {a b : Nat} (ha : a < 2 ^ 32) (hb : b < 2 ^ 32) : nI a = nI b ↔ a = b := by
  constructor
  · intro e
    have h1 := pk_tn ha
    have h2 := pk_tn hb
    rw [e] at h1; omega
  · intro e; rw [e]
theorem cf_sameBlock_8 {F : Nat} {M T W M1 T1 W1 : Nat → Nat} {b : Nat} (hb : b < 36) (h1 : ∀ c, c < sz b → cl M T W b c < 2 ^ 32) (h2 : ∀ c, c < sz b → cl M1 T1 W1 b c < 2 ^ 32) : ∀ (r k n : Nat), k + r = sz b → r < n → s_S_sameBlock_8 F (zz M) (zz T) (zz W) (zz M1) (zz T1) (zz W1) n (nI b) (nI (sz b)) (nI k) = some (pif (∀ c, k ≤ c → c < sz b → cl M T W b c = cl M1 T1 W1 b c) (nI 1) (nI 0)) := by
  have hs := sz_le (b := b)
  intro r
  induction r with
  | zero =>
    intro k n hk hn
    obtain ⟨n, rfl⟩ : ∃ q, n = q + 1 := ⟨n - 1, by omega⟩
    unfold s_S_sameBlock_8
    rw [if_pos (nI_le (by omega) (by omega)), pif_t (fun c q1 q2 => by omega)]
  | succ r ih =>
    intro k n hk hn
    obtain ⟨n, rfl⟩ : ∃ q, n = q + 1 := ⟨n - 1, by omega⟩
    unfold s_S_sameBlock_8
    rw [if_neg (nI_ge (by omega) (by omega)), bd_e (cf_cell hb (by omega)), bd_e (cf_cell hb (by omega))]
    by_cases h : cl M T W b k = cl M1 T1 W1 b k
    · rw [if_pos (by rw [h]), nI_add, ih (k + 1) n (by omega) (by omega)]
      congr 1
      refine pif_congr ⟨fun q c q1 q2 => ?_, fun q c q1 q2 => q c (by omega) q2⟩
      by_cases e : c = k
      · subst e; exact h
      · exact q c (by omega) q2
    · rw [if_neg (fun q => h ((nI32 (h1 k (by omega)) (h2 k (by omega))).mp q)), pif_f (fun q => h (q k (Nat.le_refl _) (by omega)))]
theorem cf_sameBlock {F : Nat} {M T W M1 T1 W1 : Nat → Nat} {b : Nat} (hF : 30 < F) (hb : b < 36) (h1 : ∀ c, c < sz b → cl M T W b c < 2 ^ 32) (h2 : ∀ c, c < sz b → cl M1 T1 W1 b c < 2 ^ 32) : s_S_sameBlock F (zz M) (zz T) (zz W) (zz M1) (zz T1) (zz W1) (nI b) = some (pif (∀ c, c < sz b → cl M T W b c = cl M1 T1 W1 b c) (nI 1) (nI 0)) := by
  have hs := sz_le (b := b)
  unfold s_S_sameBlock
  rw [bd_e (cf_cellCount hb)]
  have := cf_sameBlock_8 (F := F) hb h1 h2 (sz b) 0 F (by omega) (by omega)
  rw [this]
  congr 1
  exact pif_congr ⟨fun q c hc => q c (Nat.zero_le _) hc, fun q c _ hc => q c hc⟩
def z1 : Nat → Nat := fun _ => 0
theorem cf_clearWords_2 {F : Nat} {W : Nat → Nat} {b : Nat} (hb : b < 36) : ∀ (r k n : Nat), k + r = 8 → r < n → s_S_clearWords_2 F n (nI b) (nI k) (zz (cp W z1 (8 * b) k)) = some (zz (cp W z1 (8 * b) 8)) := by
  intro r
  induction r with
  | zero =>
    intro k n hk hn
    obtain ⟨n, rfl⟩ : ∃ q, n = q + 1 := ⟨n - 1, by omega⟩
    unfold s_S_clearWords_2
    rw [if_pos (nI_le (by omega) (by omega)), show k = 8 by omega]
  | succ r ih =>
    intro k n hk hn
    obtain ⟨n, rfl⟩ : ∃ q, n = q + 1 := ⟨n - 1, by omega⟩
    unfold s_S_clearWords_2
    rw [if_neg (nI_ge (by omega) (by omega)), show nI b * nI 8 + nI k = nI (8 * b + k) by rw [pk_mul, nI_add]; exact nIe (by omega), ga_e (8 * b + k) rfl (by omega) (by decide), nI_clamp (by omega), zz_up, nI_add]
    have := ih (k + 1) n (by omega) (by omega)
    rw [← cp_s] at this
    exact this
theorem cf_clearWords {F : Nat} {W : Nat → Nat} {b : Nat} (hF : 8 < F) (hb : b < 36) : s_S_clearWords F (nI b) (zz W) = some (zz (cp W z1 (8 * b) 8)) := by
  have := cf_clearWords_2 (F := F) (W := W) hb 8 0 F rfl hF
  rw [cp_0] at this; exact this
theorem cf_wipeInode_8 {F : Nat} {M : Nat → Int32} {T : Nat → Nat} {i : Nat} (hi : i < 18) : ∀ (r k n : Nat), k + r = 5 → r < n → s_S_wipeInode_8 F n (nI i) (nI k) M (zz (cp T z1 (5 * i) k)) = some (M, zz (cp T z1 (5 * i) 5)) := by
  intro r
  induction r with
  | zero =>
    intro k n hk hn
    obtain ⟨n, rfl⟩ : ∃ q, n = q + 1 := ⟨n - 1, by omega⟩
    unfold s_S_wipeInode_8
    rw [if_pos (nI_le (by omega) (by omega)), show k = 5 by omega]
  | succ r ih =>
    intro k n hk hn
    obtain ⟨n, rfl⟩ : ∃ q, n = q + 1 := ⟨n - 1, by omega⟩
    unfold s_S_wipeInode_8
    rw [if_neg (nI_ge (by omega) (by omega)), show nI i * nI 5 + nI k = nI (5 * i + k) by rw [pk_mul, nI_add]; exact nIe (by omega), ga_e (5 * i + k) rfl (by omega) (by decide), nI_clamp (by omega), zz_up, nI_add]
    have := ih (k + 1) n (by omega) (by omega)
    rw [← cp_s] at this
    exact this
theorem cf_wipeInode {F : Nat} {M T : Nat → Nat} {i : Nat} (hF : 5 < F) (hi : i < 18) : s_S_wipeInode F (nI i) (zz M) (zz T) = some (zz (up M (i / 6 * 16 + i % 6) 0), zz (cp T z1 (5 * i) 5)) := by
  unfold s_S_wipeInode
  rw [bd_e (cf_setInodeMark hi)]
  have := cf_wipeInode_8 (F := F) (M := zz (up M (i / 6 * 16 + i % 6) 0)) (T := T) hi 5 0 F rfl hF
  rw [cp_0] at this; exact this
-- the group with the most free inodes
noncomputable def fg (M T : Nat → Nat) (g : Nat) : Nat := cn (fun j => fre M T (6 * g + j)) 6
def rg (c0 c1 c2 : Nat) : Nat := if c0 < c1 then (if c1 < c2 then 2 else 1) else (if c0 < c2 then 2 else 0)
theorem cf_roomiest_17 {F : Nat} {M T : Nat → Nat} {k6 : Int32 → Int32 → Int32 → Option Int32} {g bst mst : Nat} (hT : VT T) (hM : ∀ n, n < 48 → M n ≤ 1) (hg : g < 3) (hmst : mst < 100) : ∀ (r k n : Nat), k + r = 6 → r < n → s_S_roomiestGroup_17 F (zz M) (zz T) k6 n (nI bst) (nI mst) (nI g) (nI (cn (fun j => fre M T (6 * g + j)) k)) (nI k) = (if fg M T g ≤ mst then k6 (nI bst) (nI mst) (nI (g + 1)) else k6 (nI g) (nI (fg M T g)) (nI (g + 1))) := by
  have hc := cn_le (P := fun j => fre M T (6 * g + j)) (n := 6)
  intro r
  induction r with
  | zero =>
    intro k n hk hn
    obtain ⟨n, rfl⟩ : ∃ q, n = q + 1 := ⟨n - 1, by omega⟩
    unfold s_S_roomiestGroup_17
    have e8 : k = 6 := by omega
    subst e8
    rw [if_pos (nI_le (by omega) (by omega)), nI_add]
    unfold fg
    by_cases h : cn (fun j => fre M T (6 * g + j)) 6 ≤ mst
    · rw [if_pos h, if_pos (nI_le h (by omega))]
    · rw [if_neg h, if_neg (nI_ge (by omega) (by omega))]
  | succ r ih =>
    intro k n hk hn
    obtain ⟨n, rfl⟩ : ∃ q, n = q + 1 := ⟨n - 1, by omega⟩
    unfold s_S_roomiestGroup_17 s_S_roomiestGroup_45
    rw [if_neg (nI_ge (by omega) (by omega)), show nI g * nI 6 + nI k = nI (6 * g + k) by rw [pk_mul, nI_add]; exact nIe (by omega), bd_e (cf_isFreeInode hT hM (by omega)), nI_add, nI_add, nI_add]
    have := ih (k + 1) n (by omega) (by omega)
    by_cases h : fre M T (6 * g + k)
    · rw [if_neg (fun z => pif01.mp z h)]
      rw [cn_t (P := fun j => fre M T (6 * g + j)) h] at this; exact this
    · rw [if_pos (pif01.mpr h)]
      rw [cn_f (P := fun j => fre M T (6 * g + j)) h] at this; exact this
theorem cf_roomiest {F : Nat} {M T : Nat → Nat} (hF : 6 < F) (hT : VT T) (hM : ∀ n, n < 48 → M n ≤ 1) : s_S_roomiestGroup F (zz M) (zz T) = some (nI (rg (fg M T 0) (fg M T 1) (fg M T 2))) := by
  have h0 : fg M T 0 ≤ 6 := cn_le
  have h1 : fg M T 1 ≤ 6 := cn_le
  have h2 : fg M T 2 ≤ 6 := cn_le
  have step : ∀ (g bst mst n : Nat), g < 3 → mst < 100 → s_S_roomiestGroup_6 F (zz M) (zz T) (n + 1) (nI bst) (nI mst) (nI g) = (if fg M T g ≤ mst then s_S_roomiestGroup_6 F (zz M) (zz T) n (nI bst) (nI mst) (nI (g + 1)) else s_S_roomiestGroup_6 F (zz M) (zz T) n (nI g) (nI (fg M T g)) (nI (g + 1))) := by
    intro g bst mst n hg hmst
    conv => lhs; unfold s_S_roomiestGroup_6
    rw [if_neg (nI_ge (by omega) (by omega))]
    exact cf_roomiest_17 hT hM hg hmst 6 0 F rfl hF
  have fin : ∀ (bst mst n : Nat), s_S_roomiestGroup_6 F (zz M) (zz T) (n + 1) (nI bst) (nI mst) (nI 3) = some (nI bst) := by
    intro bst mst n
    unfold s_S_roomiestGroup_6
    rw [if_pos (nI_le (by omega) (by omega))]
  obtain ⟨n, rfl⟩ : ∃ q, F = q + 4 := ⟨F - 4, by omega⟩
  unfold s_S_roomiestGroup rg
  rw [step 0 0 0 (n + 3) (by omega) (by omega)]
  by_cases a : fg M T 0 ≤ 0
  · rw [if_pos a, step 1 0 0 (n + 2) (by omega) (by omega)]
    by_cases b : fg M T 1 ≤ 0
    · rw [if_pos b, step 2 0 0 (n + 1) (by omega) (by omega)]
      by_cases c : fg M T 2 ≤ 0
      · rw [if_pos c, fin, if_neg (by omega), if_neg (by omega)]
      · rw [if_neg c, fin, if_neg (by omega), if_pos (by omega)]
    · rw [if_neg b, step 2 1 _ (n + 1) (by omega) (by omega)]
      by_cases c : fg M T 2 ≤ fg M T 1
      · rw [if_pos c, fin, if_pos (by omega), if_neg (by omega)]
      · rw [if_neg c, fin, if_pos (by omega), if_pos (by omega)]
  · rw [if_neg a, step 1 0 _ (n + 2) (by omega) (by omega)]
    by_cases b : fg M T 1 ≤ fg M T 0
    · rw [if_pos b, step 2 0 _ (n + 1) (by omega) (by omega)]
      by_cases c : fg M T 2 ≤ fg M T 0
      · rw [if_pos c, fin, if_neg (by omega), if_neg (by omega)]
      · rw [if_neg c, fin, if_neg (by omega), if_pos (by omega)]
    · rw [if_neg b, step 2 1 _ (n + 1) (by omega) (by omega)]
      by_cases c : fg M T 2 ≤ fg M T 1
      · rw [if_pos c, fin, if_pos (by omega), if_neg (by omega)]
      · rw [if_neg c, fin, if_pos (by omega), if_pos (by omega)]
-- sets of inodes
theorem b_1 : ∀ j, j < 32 → bt (nI 1) j = decide (j = 0) := by decide +kernel
theorem cf_has {x : Int32} {i : Nat} (hi : i < 31) : s_V_has x (nI i) = some (if bt x i = true then nI 1 else nI 0) := by
  unfold s_V_has
  have h0 : bt (x >>> (nI i &&& 31) &&& nI 1) 0 = bt x i := by
    rw [b_and, b_sshr i (by omega) x (by omega), if_pos (by omega), b_1 0 (by omega)]; simp
  by_cases h : bt x i = true
  · rw [if_pos h, if_pos]
    refine b_ext fun j hj => ?_
    by_cases e : j = 0
    · subst e; rw [h0, h, b_1 0 (by omega)]; rfl
    · rw [b_and, b_1 j hj, decide_eq_false e, Bool.and_false]
  · rw [if_neg h, if_neg]
    intro e
    rw [e, b_1 0 (by omega)] at h0
    exact h h0.symm
theorem if01 {P : Prop} [Decidable P] : ((if P then nI 1 else nI 0) = 0) ↔ ¬ P := by
  by_cases p : P
  · rw [if_pos p]; exact ⟨fun q => absurd q (by decide), fun q => absurd p q⟩
  · rw [if_neg p]; exact ⟨fun _ => p, fun _ => rfl⟩
