-- closed forms of the Store's methods
theorem nIe {a b : Nat} (h : a = b) : nI a = nI b := by rw [h]
theorem nI0 {a : Nat} (h : a < 2 ^ 31) : nI a = 0 ↔ a = 0 := by
  have := nI_eq (a := a) (b := 0) h (by decide)
  rw [nI_0] at this; exact this
def VT (T : Nat → Nat) : Prop := ∀ i, i < 18 → kd T i ≤ 2 ∧ lk T i < 2 ^ 30 ∧ ∀ k, k < 3 → pt T i k = 0 ∨ isD (pt T i k)
theorem VT_k {T : Nat → Nat} (h : VT T) {i : Nat} (hi : i < 18) : kd T i ≤ 2 := (h i hi).1
theorem VT_p {T : Nat → Nat} (h : VT T) {i k : Nat} (hi : i < 18) (hk : k < 3) : pt T i k < 36 := by
  rcases (h i hi).2.2 k hk with e | e
  · omega
  · exact e.1
theorem cf_kind {T : Nat → Nat} {i : Nat} (hi : i < 18) : s_S_kind (zz T) (nI i) = some (nI (kd T i)) := by
  unfold s_S_kind
  rw [gr_e (5 * i) (by rw [pk_mul]; exact nIe (by omega)) (by omega) (by decide)]
theorem cf_links {T : Nat → Nat} {i : Nat} (hi : i < 18) : s_S_links (zz T) (nI i) = some (nI (lk T i)) := by
  unfold s_S_links
  rw [gr_e (5 * i + 1) (by rw [pk_mul, nI_add]; exact nIe (by omega)) (by omega) (by decide)]
theorem cf_pointer {T : Nat → Nat} {i k : Nat} (hi : i < 18) (hk : k < 3) : s_S_pointer (zz T) (nI i) (nI k) = some (nI (pt T i k)) := by
  unfold s_S_pointer
  rw [gr_e (5 * i + 2 + k) (by rw [pk_mul, nI_add, nI_add]; exact nIe (by omega)) (by omega) (by decide)]
theorem ix_im {i : Nat} (hi : i < 18) : nI i / nI 6 * nI 16 + (nI i - nI i / nI 6 * nI 6) = nI (i / 6 * 16 + i % 6) := by
  rw [pk_rem (a := i) (d := 6) (by omega) (by decide) (by decide), pk_div (a := i) (d := 6) (by omega) (by decide) (by decide), pk_mul, nI_add]
theorem ix_bm {b : Nat} (hb : isD b) : nI b / nI 12 * nI 16 + nI 6 + (nI b - nI b / nI 12 * nI 12) - nI 2 = nI (b / 12 * 16 + 4 + b % 12) := by
  have := hb.1
  rw [pk_rem (a := b) (d := 12) (by omega) (by decide) (by decide), pk_div (a := b) (d := 12) (by omega) (by decide) (by decide), pk_mul, nI_add, nI_add, pk_sub (by omega)]
  exact nIe (by omega)
theorem cf_inodeMark {M : Nat → Nat} {i : Nat} (hi : i < 18) : s_S_inodeMark (zz M) (nI i) = some (nI (im M i)) := by
  unfold s_S_inodeMark
  rw [gr_e (i / 6 * 16 + i % 6) (ix_im hi) (by omega) (by decide)]
theorem cf_blockMark {M : Nat → Nat} {b : Nat} (hb : isD b) : s_S_blockMark (zz M) (nI b) = some (nI (bm M b)) := by
  have h1 := hb.1
  have h2 := hb.2
  unfold s_S_blockMark
  rw [gr_e (b / 12 * 16 + 4 + b % 12) (ix_bm hb) (by omega) (by decide)]
theorem cf_setKind {T : Nat → Nat} {i v : Nat} (hi : i < 18) : s_S_setKind (nI i) (nI v) (zz T) = some (zz (up T (5 * i) v)) := by
  unfold s_S_setKind
  rw [show nI i * nI 5 = nI (5 * i) by rw [pk_mul]; exact nIe (by omega), ga_e (5 * i) rfl (by omega) (by decide), nI_clamp (by omega), zz_up]
theorem cf_setLinks {T : Nat → Nat} {i v : Nat} (hi : i < 18) : s_S_setLinks (nI i) (nI v) (zz T) = some (zz (up T (5 * i + 1) v)) := by
  unfold s_S_setLinks
  rw [show nI i * nI 5 + nI 1 = nI (5 * i + 1) by rw [pk_mul, nI_add]; exact nIe (by omega), ga_e (5 * i + 1) rfl (by omega) (by decide), nI_clamp (by omega), zz_up]
theorem cf_setPointer {T : Nat → Nat} {i k v : Nat} (hi : i < 18) (hk : k < 3) : s_S_setPointer (nI i) (nI k) (nI v) (zz T) = some (zz (up T (5 * i + 2 + k) v)) := by
  unfold s_S_setPointer
  rw [show nI i * nI 5 + nI 2 + nI k = nI (5 * i + 2 + k) by rw [pk_mul, nI_add, nI_add]; exact nIe (by omega), ga_e (5 * i + 2 + k) rfl (by omega) (by decide), nI_clamp (by omega), zz_up]
theorem cf_setInodeMark {M : Nat → Nat} {i v : Nat} (hi : i < 18) : s_S_setInodeMark (nI i) (nI v) (zz M) = some (zz (up M (i / 6 * 16 + i % 6) v)) := by
  unfold s_S_setInodeMark
  rw [ix_im hi, ga_e (i / 6 * 16 + i % 6) rfl (by omega) (by decide), nI_clamp (by omega), zz_up]
theorem cf_setBlockMark {M : Nat → Nat} {b v : Nat} (hb : isD b) : s_S_setBlockMark (nI b) (nI v) (zz M) = some (zz (up M (b / 12 * 16 + 4 + b % 12) v)) := by
  have h1 := hb.1
  have h2 := hb.2
  unfold s_S_setBlockMark
  rw [ix_bm hb, ga_e (b / 12 * 16 + 4 + b % 12) rfl (by omega) (by decide), nI_clamp (by omega), zz_up]
theorem cf_setWord {W : Nat → Nat} {b c v : Nat} (hb : b < 36) (hc : c < 8) : s_S_setWord (nI b) (nI c) (nI v) (zz W) = some (zz (up W (8 * b + c) v)) := by
  unfold s_S_setWord
  rw [show nI b * nI 8 + nI c = nI (8 * b + c) by rw [pk_mul, nI_add]; exact nIe (by omega), ga_e (8 * b + c) rfl (by omega) (by decide), nI_clamp (by omega), zz_up]
theorem cf_isData {b : Nat} (hb : b < 36) : s_V_isData (nI b) = some (if 2 ≤ b % 12 then nI 1 else nI 0) := by
  unfold s_V_isData
  rw [pk_rem (by omega) (by decide) (by decide)]
  by_cases h : 2 ≤ b % 12
  · rw [if_pos h, if_neg (nI_nlt (by omega) (by omega))]
  · rw [if_neg h, if_pos (nI_lt (by omega) (by omega))]
theorem cf_isBlank {B : Nat → Nat} {b : Nat} (hb : b < 36) (h1 : B b ≤ 1) : s_S_isBlank (zz B) (nI b) = some (nI (B b)) := by
  unfold s_S_isBlank
  rw [gr_e b rfl hb (by decide)]
  show gz (nI (B b)) _ = _
  rw [gz_e]
  have : B b = 0 ∨ B b = 1 := by omega
  rcases this with e | e <;> rw [e]
  · exact Or.inl rfl
  · exact Or.inr rfl
theorem cf_setBlank {B : Nat → Nat} {b v : Nat} (hb : b < 36) (hv : v ≤ 1) : s_S_setBlank (nI b) (nI v) (zz B) = some (zz (up B b v)) := by
  unfold s_S_setBlank
  rw [ga_e b rfl hb (by decide), nI_clamp (by omega)]
  have : v = 0 ∨ v = 1 := by omega
  rcases this with e | e <;> subst e
  · rw [show vp_nar .boolean (nI 0) = nI 0 from rfl, zz_up]
  · rw [show vp_nar .boolean (nI 1) = nI 1 from rfl, zz_up]
theorem cf_word {W B : Nat → Nat} {b c : Nat} (hb : b < 36) (hc : c < 8) (h1 : B b ≤ 1) : s_S_word (zz W) (zz B) (nI b) (nI c) = some (if B b = 0 then nI (W (8 * b + c)) else nI 0) := by
  unfold s_S_word
  rw [gr_e b rfl hb (by decide)]
  show (if nI (B b) = 0 then _ else _) = _
  by_cases h : B b = 0
  · rw [if_pos h, if_pos ((nI0 (by omega)).mpr h), gr_e (8 * b + c) (by rw [pk_mul, nI_add]; exact nIe (by omega)) (by omega) (by decide)]
  · rw [if_neg h, if_neg (fun q => h ((nI0 (by omega)).mp q))]
-- entries of a directory
def en (T W B : Nat → Nat) (d c : Nat) : Nat := if kd T d = 2 ∧ pt T d 0 ≠ 0 ∧ B (pt T d 0) = 0 then W (8 * pt T d 0 + c) else 0
theorem cf_entry {T W B : Nat → Nat} {d c : Nat} (hT : VT T) (hB : ∀ b, b < 36 → B b ≤ 1) (hd : d < 18) (hc : c < 8) : s_S_entry (zz T) (zz W) (zz B) (nI d) (nI c) = some (nI (en T W B d c)) := by
  have hk := VT_k hT hd
  have hp := VT_p hT (k := 0) hd (by omega)
  have hb := hB _ hp
  unfold s_S_entry s_S_entry_26 s_S_entry_40
  rw [gr_e (5 * d) (by rw [pk_mul]; exact nIe (by omega)) (by omega) (by decide)]
  show (if nI (kd T d) = nI 2 then _ else _) = _
  unfold en
  by_cases h2 : kd T d = 2
  · rw [if_pos (by rw [h2]), gr_e (5 * d + 2) (by rw [pk_mul, nI_add]; exact nIe (by omega)) (by omega) (by decide)]
    show (if nI (pt T d 0) = 0 then _ else _) = _
    by_cases h0 : pt T d 0 = 0
    · rw [if_pos (by rw [h0]; rfl), if_neg (fun q => q.2.1 h0)]
    · rw [if_neg (fun q => h0 ((nI0 (by omega)).mp q))]
      have e : zz T (5 * d + 2) = nI (pt T d 0) := rfl
      rw [e, gr_e (pt T d 0) rfl hp (by decide)]
      show (if nI (B (pt T d 0)) = 0 then _ else _) = _
      by_cases hb0 : B (pt T d 0) = 0
      · rw [if_pos (by rw [hb0]; rfl), if_pos ⟨h2, h0, hb0⟩, gr_e (8 * pt T d 0 + c) (by rw [pk_mul, nI_add]; exact nIe (by omega)) (by omega) (by decide)]
      · rw [if_neg (fun q => hb0 ((nI0 (by omega)).mp q)), if_neg (fun q => hb0 q.2.2)]
  · rw [if_neg (fun q => h2 ((nI_eq (by omega) (by decide)).mp q)), if_pos (show nI 0 = 0 from rfl), if_neg (fun q => h2 q.1)]
theorem cf_entryCount_4 {F : Nat} {T W B : Nat → Nat} {d : Nat} (hT : VT T) (hB : ∀ b, b < 36 → B b ≤ 1) (hd : d < 18) (hE : ∀ c, c < 8 → en T W B d c < 2 ^ 31) : ∀ (r k n : Nat), k + r = 8 → r < n → s_S_entryCount_4 F (zz T) (zz W) (zz B) n (nI d) (nI (cn (fun c => en T W B d c ≠ 0) k)) (nI k) = some (nI (cn (fun c => en T W B d c ≠ 0) 8)) := by
  intro r
  induction r with
  | zero =>
    intro k n hk hn
    obtain ⟨n, rfl⟩ : ∃ q, n = q + 1 := ⟨n - 1, by omega⟩
    unfold s_S_entryCount_4
    rw [if_pos (nI_le (by omega) (by omega)), show k = 8 by omega]
  | succ r ih =>
    intro k n hk hn
    obtain ⟨n, rfl⟩ : ∃ q, n = q + 1 := ⟨n - 1, by omega⟩
    have := hE k (by omega)
    unfold s_S_entryCount_4
    rw [if_neg (nI_ge (by omega) (by omega)), bd_e (cf_entry hT hB hd (by omega))]
    by_cases h : en T W B d k = 0
    · rw [if_pos (by rw [h]; rfl), nI_add]
      have := ih (k + 1) n (by omega) (by omega)
      rw [cn_f (P := fun c => en T W B d c ≠ 0) (fun q => q h)] at this
      exact this
    · rw [if_neg (fun q => h ((nI0 (by omega)).mp q)), nI_add, nI_add]
      have := ih (k + 1) n (by omega) (by omega)
      rw [cn_t (P := fun c => en T W B d c ≠ 0) h] at this
      exact this
theorem cf_entryCount {F : Nat} {T W B : Nat → Nat} {d : Nat} (hF : 8 < F) (hT : VT T) (hB : ∀ b, b < 36 → B b ≤ 1) (hd : d < 18) (hE : ∀ c, c < 8 → en T W B d c < 2 ^ 31) : s_S_entryCount F (zz T) (zz W) (zz B) (nI d) = some (nI (cn (fun c => en T W B d c ≠ 0) 8)) :=
  cf_entryCount_4 hT hB hd hE 8 0 F rfl hF
