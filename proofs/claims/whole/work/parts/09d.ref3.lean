-- the reference: searches in a directory, free inodes and blocks
theorem z1_le : ∀ b, b < 36 → z1 b ≤ 1 := fun _ _ => by unfold z1; omega
theorem en_m {T W : Nat → Nat} {d c : Nat} (h2 : kd T d = 2) (h0 : pt T d 0 ≠ 0) : en T W z1 d c = W (8 * pt T d 0 + c) := by
  unfold en; rw [if_pos ⟨h2, h0, rfl⟩]
section DIR
variable {F : Nat} {A T W A' T' W' K : Nat → Nat} {d : Nat}
theorem cf_find_14 {m : Nat} (hT : VT T) (hd : d < 18) (h2 : kd T d = 2) (h0 : pt T d 0 ≠ 0) (hm : m < 2 ^ 31) (hE : ∀ c, c < 8 → en T W z1 d c < 2 ^ 31) : ∀ (r k n : Nat), k + r = 8 → r < n → (∀ j, j < k → ¬ en T W z1 d j / 32 = m) → s_R_find_14 F (zz (rM A T W)) n (nI m) (nI (pt T d 0)) (nI k) = some (ans (sr (fun c => en T W z1 d c / 32 = m) 8) 8) := by
  have hD := isD_p hT hd (k := 0) (by omega) h0
  intro r
  induction r with
  | zero =>
    intro k n hk hn hj
    obtain ⟨n, rfl⟩ : ∃ q, n = q + 1 := ⟨n - 1, by omega⟩
    unfold s_R_find_14
    have e8 : k = 8 := by omega
    subst e8
    rw [if_pos (nI_le (by omega) (by omega)), sr_none.mpr hj]; rfl
  | succ r ih =>
    intro k n hk hn hj
    obtain ⟨n, rfl⟩ : ∃ q, n = q + 1 := ⟨n - 1, by omega⟩
    have := hE k (by omega)
    unfold s_R_find_14
    rw [if_neg (nI_ge (by omega) (by omega)), rd_w hD (by omega), ← en_m (W := W) (c := k) h2 h0, pk_div this (by decide) (by decide)]
    by_cases h : en T W z1 d k / 32 = m
    · rw [if_pos (by rw [h]), sr_eq (P := fun c => en T W z1 d c / 32 = m) (k := k) (by omega) (fun _ => h) hj, ans_t (by omega)]
    · rw [if_neg (fun q => h ((nI_eq (by omega) hm).mp q)), nI_add]
      refine ih (k + 1) n (by omega) (by omega) (fun j hj2 => ?_)
      by_cases e : j = k
      · subst e; exact h
      · exact hj j (by omega)
theorem cf_find {m : Nat} (hF : 8 < F) (hT : VT T) (hd : d < 18) (h2 : kd T d = 2) (h0 : pt T d 0 ≠ 0) (hm : m < 2 ^ 31) (hE : ∀ c, c < 8 → en T W z1 d c < 2 ^ 31) : s_R_find F (zz (rM A T W)) (nI d) (nI m) = some (ans (sr (fun c => en T W z1 d c / 32 = m) 8) 8) := by
  unfold s_R_find
  rw [bd_e (cf_at hd (by omega)), rd_t hd (by omega)]
  exact cf_find_14 hT hd h2 h0 hm hE 8 0 F rfl hF (fun j hj => absurd hj (Nat.not_lt_zero _))
theorem cf_entries_16 (hT : VT T) (hd : d < 18) (h2 : kd T d = 2) (h0 : pt T d 0 ≠ 0) (hE : ∀ c, c < 8 → en T W z1 d c < 2 ^ 31) : ∀ (r k n : Nat), k + r = 8 → r < n → s_R_entries_16 F (zz (rM A T W)) n (nI (pt T d 0)) (nI (cn (fun c => en T W z1 d c ≠ 0) k)) (nI k) = some (nI (cn (fun c => en T W z1 d c ≠ 0) 8)) := by
  have hD := isD_p hT hd (k := 0) (by omega) h0
  intro r
  induction r with
  | zero =>
    intro k n hk hn
    obtain ⟨n, rfl⟩ : ∃ q, n = q + 1 := ⟨n - 1, by omega⟩
    unfold s_R_entries_16
    rw [if_pos (nI_le (by omega) (by omega)), show k = 8 by omega]
  | succ r ih =>
    intro k n hk hn
    obtain ⟨n, rfl⟩ : ∃ q, n = q + 1 := ⟨n - 1, by omega⟩
    have := hE k (by omega)
    unfold s_R_entries_16
    rw [if_neg (nI_ge (by omega) (by omega)), rd_w hD (by omega), ← en_m (W := W) (c := k) h2 h0]
    by_cases h : en T W z1 d k = 0
    · rw [if_pos (by rw [h]; rfl), nI_add]
      have := ih (k + 1) n (by omega) (by omega)
      rw [cn_f (P := fun c => en T W z1 d c ≠ 0) (fun q => q h)] at this
      exact this
    · rw [if_neg (fun q => h ((nI0 (by omega)).mp q)), nI_add, nI_add]
      have := ih (k + 1) n (by omega) (by omega)
      rw [cn_t (P := fun c => en T W z1 d c ≠ 0) h] at this
      exact this
theorem cf_entries (hF : 8 < F) (hT : VT T) (hd : d < 18) (h2 : kd T d = 2) (h0 : pt T d 0 ≠ 0) (hE : ∀ c, c < 8 → en T W z1 d c < 2 ^ 31) : s_R_entries F (zz (rM A T W)) (nI d) = some (nI (cn (fun c => en T W z1 d c ≠ 0) 8)) := by
  unfold s_R_entries
  rw [bd_e (cf_at hd (by omega)), rd_t hd (by omega)]
  exact cf_entries_16 hT hd h2 h0 hE 8 0 F rfl hF
-- the place for a new entry
def pc0 (T W W' K : Nat → Nat) (d c : Nat) : Prop := en T W z1 d c = 0 ∧ sdw W' K (8 * pt T d 0 + c) = 0
theorem cf_place_13 (hT : VT T) (hK : ∀ b, b < 36 → K b ≤ 1) (hd : d < 18) (h2 : kd T d = 2) (h0 : pt T d 0 ≠ 0) (hE : ∀ c, c < 8 → en T W z1 d c < 2 ^ 31) (hE' : ∀ c, c < 8 → sdw W' K (8 * pt T d 0 + c) < 2 ^ 31) : ∀ (r k n : Nat), k + r = 8 → r < n → (∀ j, j < k → ¬ pc0 T W W' K d j) → s_R_place_13 F (zz (rM A T W)) (zz (rM A' T' W')) (zz K) n (nI (pt T d 0)) (nI k) = some (ans (sr (pc0 T W W' K d) 8) 8) := by
  have hD := isD_p hT hd (k := 0) (by omega) h0
  intro r
  induction r with
  | zero =>
    intro k n hk hn hj
    obtain ⟨n, rfl⟩ : ∃ q, n = q + 1 := ⟨n - 1, by omega⟩
    unfold s_R_place_13
    have e8 : k = 8 := by omega
    subst e8
    rw [if_pos (nI_le (by omega) (by omega)), sr_none.mpr hj]; rfl
  | succ r ih =>
    intro k n hk hn hj
    obtain ⟨n, rfl⟩ : ∃ q, n = q + 1 := ⟨n - 1, by omega⟩
    have v1 := hE k (by omega)
    have v2 := hE' k (by omega)
    have next : ¬ pc0 T W W' K d k → s_R_place_13 F (zz (rM A T W)) (zz (rM A' T' W')) (zz K) n (nI (pt T d 0)) (nI k + nI 1) = some (ans (sr (pc0 T W W' K d) 8) 8) := by
      intro h
      rw [nI_add]
      refine ih (k + 1) n (by omega) (by omega) (fun j hj2 => ?_)
      by_cases e : j = k
      · subst e; exact h
      · exact hj j (by omega)
    unfold s_R_place_13
    rw [if_neg (nI_ge (by omega) (by omega)), rd_w hD (by omega), ← en_m (W := W) (c := k) h2 h0, bd_e (cf_seen' hD (by omega) (hK _ hD.1))]
    by_cases h : en T W z1 d k = 0
    · rw [if_pos (by rw [h]; rfl)]
      by_cases h' : sdw W' K (8 * pt T d 0 + k) = 0
      · rw [if_pos (by rw [h']; rfl), sr_eq (P := pc0 T W W' K d) (k := k) (by omega) (fun _ => ⟨h, h'⟩) hj, ans_t (by omega)]
      · rw [if_neg (fun q => h' ((nI0 v2).mp q))]; exact next (fun q => h' q.2)
    · rw [if_neg (fun q => h ((nI0 v1).mp q))]; exact next (fun q => h q.1)
theorem cf_place (hF : 8 < F) (hT : VT T) (hK : ∀ b, b < 36 → K b ≤ 1) (hd : d < 18) (h2 : kd T d = 2) (h0 : pt T d 0 ≠ 0) (hE : ∀ c, c < 8 → en T W z1 d c < 2 ^ 31) (hE' : ∀ c, c < 8 → sdw W' K (8 * pt T d 0 + c) < 2 ^ 31) : s_R_place F (zz (rM A T W)) (zz (rM A' T' W')) (zz K) (nI d) = some (ans (sr (pc0 T W W' K d) 8) 8) := by
  unfold s_R_place
  rw [bd_e (cf_at hd (by omega)), rd_t hd (by omega)]
  exact cf_place_13 hT hK hd h2 h0 hE hE' 8 0 F rfl hF (fun j hj => absurd hj (Nat.not_lt_zero _))
theorem cf_placeIn_18 (hT : VT T) (hK : ∀ b, b < 36 → K b ≤ 1) (hd : d < 18) (h2 : kd T d = 2) (h0 : pt T d 0 ≠ 0) (hE : ∀ c, c < 8 → en T W z1 d c < 2 ^ 31) (hE' : ∀ c, c < 8 → sdw W' K (8 * pt T d 0 + c) < 2 ^ 31) : ∀ (r k n : Nat), k + r = 8 → r < n → (∀ j, j < k → ¬ pc0 T W W' K d j) → s_V_placeIn_18 F (zz T) (zz W) (zz z1) (zz W') (zz K) n (nI (pt T d 0)) (nI k) = some (ans (sr (pc0 T W W' K d) 8) 8) := by
  have hD := isD_p hT hd (k := 0) (by omega) h0
  intro r
  induction r with
  | zero =>
    intro k n hk hn hj
    obtain ⟨n, rfl⟩ : ∃ q, n = q + 1 := ⟨n - 1, by omega⟩
    unfold s_V_placeIn_18
    have e8 : k = 8 := by omega
    subst e8
    rw [if_pos (nI_le (by omega) (by omega)), sr_none.mpr hj]; rfl
  | succ r ih =>
    intro k n hk hn hj
    obtain ⟨n, rfl⟩ : ∃ q, n = q + 1 := ⟨n - 1, by omega⟩
    have v1 := hE k (by omega)
    have v2 := hE' k (by omega)
    have next : ¬ pc0 T W W' K d k → s_V_placeIn_18 F (zz T) (zz W) (zz z1) (zz W') (zz K) n (nI (pt T d 0)) (nI k + nI 1) = some (ans (sr (pc0 T W W' K d) 8) 8) := by
      intro h
      rw [nI_add]
      refine ih (k + 1) n (by omega) (by omega) (fun j hj2 => ?_)
      by_cases e : j = k
      · subst e; exact h
      · exact hj j (by omega)
    unfold s_V_placeIn_18
    rw [if_neg (nI_ge (by omega) (by omega)), bd_e (cf_word' hD.1 (by omega) (z1_le _ hD.1)), ← en_e (by omega) h2 h0, bd_e (cf_word' hD.1 (by omega) (hK _ hD.1))]
    by_cases h : en T W z1 d k = 0
    · rw [if_pos (by rw [h]; rfl)]
      by_cases h' : sdw W' K (8 * pt T d 0 + k) = 0
      · rw [if_pos (by rw [h']; rfl), sr_eq (P := pc0 T W W' K d) (k := k) (by omega) (fun _ => ⟨h, h'⟩) hj, ans_t (by omega)]
      · rw [if_neg (fun q => h' ((nI0 v2).mp q))]; exact next (fun q => h' q.2)
    · rw [if_neg (fun q => h ((nI0 v1).mp q))]; exact next (fun q => h q.1)
theorem cf_placeIn (hF : 8 < F) (hT : VT T) (hK : ∀ b, b < 36 → K b ≤ 1) (hd : d < 18) (h2 : kd T d = 2) (h0 : pt T d 0 ≠ 0) (hE : ∀ c, c < 8 → en T W z1 d c < 2 ^ 31) (hE' : ∀ c, c < 8 → sdw W' K (8 * pt T d 0 + c) < 2 ^ 31) : s_V_placeIn F (zz T) (zz W) (zz z1) (zz W') (zz K) (nI d) = some (ans (sr (pc0 T W W' K d) 8) 8) := by
  have hp := VT_p hT hd (k := 0) (by omega)
  unfold s_V_placeIn
  rw [bd_e (cf_pointer hd (by omega)), if_neg (fun q => h0 ((nI0 (by omega)).mp q))]
  exact cf_placeIn_18 hT hK hd h2 h0 hE hE' 8 0 F rfl hF (fun j hj => absurd hj (Nat.not_lt_zero _))
end DIR
theorem cf_freeInodeR {A T W : Nat → Nat} {i : Nat} (hT : VT T) (hM : ∀ n, n < 48 → A n ≤ 1) (hi : i < 18) : s_R_freeInode (zz (rM A T W)) (nI i) = some (pif (fre A T i) (nI 1) (nI 0)) := by
  have h1 : im A i ≤ 1 := hM _ (by omega)
  have h2 := VT_k hT hi
  unfold s_R_freeInode s_R_freeInode_29
  rw [bd_e (cf_markOfInode hi), rd_im hi, bd_e (cf_at hi (by omega)), rd_t hi (by omega), Nat.add_zero]
  by_cases h : im A i = 0
  · rw [if_pos (by rw [h]; rfl)]
    by_cases h' : kd T i = 0
    · rw [if_pos (by have e : T (5 * i) = 0 := h'; rw [e]; rfl), pif_t ⟨h, h'⟩]
    · rw [if_neg (fun q => h' ((nI0 (show kd T i < 2 ^ 31 by omega)).mp q)), pif_f (fun q => h' q.2)]
  · rw [if_neg (fun q => h ((nI0 (by omega)).mp q)), pif_f (fun q => h q.1)]
noncomputable def fi (M T : Nat → Nat) (g : Nat) : Int32 := if sr (fun j => fre M T ((6 * g + j) % 18)) 18 < 18 then nI ((6 * g + sr (fun j => fre M T ((6 * g + j) % 18)) 18) % 18) else -1
noncomputable def fb (M : Nat → Nat) (g : Nat) : Int32 := if sr (fun j => frb M ((12 * g + j) % 36)) 36 < 36 then nI ((12 * g + sr (fun j => frb M ((12 * g + j) % 36)) 36) % 36) else -1
theorem cf_inodeFor_109 {F : Nat} {A T W : Nat → Nat} {g : Nat} (hT : VT T) (hM : ∀ n, n < 48 → A n ≤ 1) (hg : g < 3) : ∀ (r k n : Nat), k + r = 18 → r < n → (∀ j, j < k → ¬ fre A T ((6 * g + j) % 18)) → s_R_inodeFor_109 F (zz (rM A T W)) n (nI g) (nI k) = some (fi A T g) := by
  intro r
  induction r with
  | zero =>
    intro k n hk hn hj
    obtain ⟨n, rfl⟩ : ∃ q, n = q + 1 := ⟨n - 1, by omega⟩
    unfold s_R_inodeFor_109 fi
    have e8 : k = 18 := by omega
    subst e8
    rw [if_pos (nI_le (by omega) (by omega)), sr_none.mpr hj, if_neg (by omega)]
  | succ r ih =>
    intro k n hk hn hj
    obtain ⟨n, rfl⟩ : ∃ q, n = q + 1 := ⟨n - 1, by omega⟩
    unfold s_R_inodeFor_109
    rw [if_neg (nI_ge (by omega) (by omega)), show nI g * nI 6 + nI k = nI (6 * g + k) by rw [pk_mul, nI_add]; exact nIe (by omega), pk_rem (a := 6 * g + k) (d := 18) (by omega) (by decide) (by decide), bd_e (cf_freeInodeR hT hM (by omega))]
    by_cases h : fre A T ((6 * g + k) % 18)
    · rw [if_neg (fun z => pif01.mp z h)]
      unfold fi
      rw [sr_eq (P := fun j => fre A T ((6 * g + j) % 18)) (k := k) (by omega) (fun _ => h) hj, if_pos (by omega)]
    · rw [if_pos (pif01.mpr h), nI_add]
      refine ih (k + 1) n (by omega) (by omega) (fun j hj2 => ?_)
      by_cases e : j = k
      · subst e; exact h
      · exact hj j (by omega)
theorem cf_inodeFor_106 {F : Nat} {A T W : Nat → Nat} {g : Nat} (hF : 18 < F) (hT : VT T) (hM : ∀ n, n < 48 → A n ≤ 1) (hg : g < 3) : s_R_inodeFor_106 F (zz (rM A T W)) (nI g) = some (fi A T g) :=
  cf_inodeFor_109 hT hM hg 18 0 F rfl hF (fun j hj => absurd hj (Nat.not_lt_zero _))
theorem cf_inodeFor_31 {F : Nat} {A T W : Nat → Nat} {k11 : Int32 → Int32 → Int32 → Int32 → Option Int32} {x2 x3 x4 : Int32} {g : Nat} (hT : VT T) (hM : ∀ n, n < 48 → A n ≤ 1) (hg : g < 3) : ∀ (r k n : Nat), k + r = 6 → r < n → s_R_inodeFor_31 F (zz (rM A T W)) k11 n x2 x3 x4 (nI g) (nI (cn (fun j => fre A T (6 * g + j)) k)) (nI (6 * g + k)) = (if nI (fg A T g) ≤ x4 then k11 x2 x3 x4 (nI (g + 1)) else k11 x2 (nI g) (nI (fg A T g)) (nI (g + 1))) := by
  intro r
  induction r with
  | zero =>
    intro k n hk hn
    obtain ⟨n, rfl⟩ : ∃ q, n = q + 1 := ⟨n - 1, by omega⟩
    unfold s_R_inodeFor_31 s_R_inodeFor_83
    have e8 : k = 6 := by omega
    subst e8
    rw [show nI 6 * nI g + nI 6 = nI (6 * g + 6) by rw [pk_mul, nI_add], if_pos (nI_le (by omega) (by omega)), nI_add]
    unfold fg
    by_cases h : nI (cn (fun j => fre A T (6 * g + j)) 6) ≤ x4
    · rw [if_pos h, if_pos h, if_pos h]
    · rw [if_neg h, if_neg h, if_neg h]
  | succ r ih =>
    intro k n hk hn
    obtain ⟨n, rfl⟩ : ∃ q, n = q + 1 := ⟨n - 1, by omega⟩
    unfold s_R_inodeFor_31
    rw [show nI 6 * nI g + nI 6 = nI (6 * g + 6) by rw [pk_mul, nI_add], if_neg (nI_ge (by omega) (by omega)), bd_e (cf_freeInodeR hT hM (by omega)), nI_add, nI_add]
    have := ih (k + 1) n (by omega) (by omega)
    by_cases h : fre A T (6 * g + k)
    · rw [if_neg (fun z => pif01.mp z h)]
      rw [cn_t (P := fun j => fre A T (6 * g + j)) h] at this; exact this
    · rw [if_pos (pif01.mpr h)]
      rw [cn_f (P := fun j => fre A T (6 * g + j)) h] at this; exact this
theorem cf_inodeFor_f {F : Nat} {A T W : Nat → Nat} {d : Nat} (hF : 18 < F) (hT : VT T) (hM : ∀ n, n < 48 → A n ≤ 1) (hd : d < 18) : s_R_inodeFor F (zz (rM A T W)) (nI d) (nI 0) = some (fi A T (d / 6)) := by
  obtain ⟨n, rfl⟩ : ∃ q, F = q + 1 := ⟨F - 1, by omega⟩
  unfold s_R_inodeFor s_R_inodeFor_11
  rw [if_neg (nI_ge (by omega) (by omega)), if_pos (show nI 0 = 0 from rfl), pk_div (by omega) (by decide) (by decide)]
  exact cf_inodeFor_106 hF hT hM (by omega)
theorem rg_lt {a b c : Nat} : rg a b c < 3 := by unfold rg; split <;> split <;> omega
theorem cf_inodeFor_d {F : Nat} {A T W : Nat → Nat} {d : Nat} (hF : 18 < F) (hT : VT T) (hM : ∀ n, n < 48 → A n ≤ 1) (hd : d < 18) : s_R_inodeFor F (zz (rM A T W)) (nI d) (nI 1) = some (fi A T (rg (fg A T 0) (fg A T 1) (fg A T 2))) := by
  have h0 : fg A T 0 ≤ 6 := cn_le
  have h1 : fg A T 1 ≤ 6 := cn_le
  have h2 : fg A T 2 ≤ 6 := cn_le
  have step : ∀ (g n : Nat) (x3 x4 : Int32), g < 3 → s_R_inodeFor_11 F (zz (rM A T W)) (n + 1) (nI 1) x3 x4 (nI g) = (if nI (fg A T g) ≤ x4 then s_R_inodeFor_11 F (zz (rM A T W)) n (nI 1) x3 x4 (nI (g + 1)) else s_R_inodeFor_11 F (zz (rM A T W)) n (nI 1) (nI g) (nI (fg A T g)) (nI (g + 1))) := by
    intro g n x3 x4 hg
    conv => lhs; unfold s_R_inodeFor_11
    rw [if_neg (nI_ge (by omega) (by omega)), if_neg (show ¬ nI 1 = 0 by decide), pk_mul]
    exact cf_inodeFor_31 hT hM hg 6 0 F rfl (by omega)
  have fin : ∀ (g n : Nat) (x4 : Int32), g < 3 → s_R_inodeFor_11 F (zz (rM A T W)) (n + 1) (nI 1) (nI g) x4 (nI 3) = some (fi A T g) := by
    intro g n x4 hg
    unfold s_R_inodeFor_11
    rw [if_pos (nI_le (by omega) (by omega))]
    exact cf_inodeFor_106 hF hT hM hg
  have m1 : ∀ k : Nat, k < 2 ^ 31 → ¬ nI k ≤ -1 := by
    intro k hk q
    have := Int32.le_iff_toInt_le.mp q
    rw [nI_toInt hk] at this
    have e : (-1 : Int32).toInt = -1 := by decide
    omega
  obtain ⟨n, rfl⟩ : ∃ q, F = q + 4 := ⟨F - 4, by omega⟩
  unfold s_R_inodeFor rg
  rw [step 0 (n + 3) _ _ (by omega), if_neg (m1 _ (by omega)), step 1 (n + 2) _ _ (by omega)]
  by_cases b : fg A T 1 ≤ fg A T 0
  · rw [if_pos (nI_le b (by omega)), step 2 (n + 1) _ _ (by omega)]
    by_cases c : fg A T 2 ≤ fg A T 0
    · rw [if_pos (nI_le c (by omega)), fin _ _ _ (by omega), if_neg (by omega), if_neg (by omega)]
    · rw [if_neg (nI_ge (by omega) (by omega)), fin _ _ _ (by omega), if_neg (by omega), if_pos (by omega)]
  · rw [if_neg (nI_ge (by omega) (by omega)), step 2 (n + 1) _ _ (by omega)]
    by_cases c : fg A T 2 ≤ fg A T 1
    · rw [if_pos (nI_le c (by omega)), fin _ _ _ (by omega), if_pos (by omega), if_neg (by omega)]
    · rw [if_neg (nI_ge (by omega) (by omega)), fin _ _ _ (by omega), if_pos (by omega), if_pos (by omega)]
theorem cf_blockFrom_2 {F : Nat} {A T W : Nat → Nat} {g : Nat} (hM : ∀ n, n < 48 → A n ≤ 1) (hg : g < 3) : ∀ (r k n : Nat), k + r = 36 → r < n → (∀ j, j < k → ¬ frb A ((12 * g + j) % 36)) → s_R_blockFrom_2 F (zz (rM A T W)) n (nI g) (nI k) = some (fb A g) := by
  intro r
  induction r with
  | zero =>
    intro k n hk hn hj
    obtain ⟨n, rfl⟩ : ∃ q, n = q + 1 := ⟨n - 1, by omega⟩
    unfold s_R_blockFrom_2 fb
    have e8 : k = 36 := by omega
    subst e8
    rw [if_pos (nI_le (by omega) (by omega)), sr_none.mpr hj, if_neg (by omega)]
  | succ r ih =>
    intro k n hk hn hj
    obtain ⟨n, rfl⟩ : ∃ q, n = q + 1 := ⟨n - 1, by omega⟩
    have next : ¬ frb A ((12 * g + k) % 36) → s_R_blockFrom_2 F (zz (rM A T W)) n (nI g) (nI (k + 1)) = some (fb A g) := by
      intro h
      refine ih (k + 1) n (by omega) (by omega) (fun j hj2 => ?_)
      by_cases e : j = k
      · subst e; exact h
      · exact hj j (by omega)
    unfold s_R_blockFrom_2
    rw [if_neg (nI_ge (by omega) (by omega)), show nI g * nI 12 + nI k = nI (12 * g + k) by rw [pk_mul, nI_add]; exact nIe (by omega), pk_rem (a := 12 * g + k) (d := 36) (by omega) (by decide) (by decide), pk_rem (a := (12 * g + k) % 36) (d := 12) (by omega) (by decide) (by decide), nI_add]
    by_cases h1 : (12 * g + k) % 36 % 12 ≤ 1
    · rw [if_pos (nI_le h1 (by omega))]
      exact next (fun q => by have := q.1; omega)
    · have hD : isD ((12 * g + k) % 36) := ⟨by omega, by omega⟩
      have hm : bm A ((12 * g + k) % 36) ≤ 1 := hM _ (by omega)
      rw [if_neg (nI_ge (by omega) (by omega)), bd_e (cf_markOfBlock hD.1), rd_bm hD]
      by_cases h : bm A ((12 * g + k) % 36) = 0
      · rw [if_pos (by rw [h]; rfl)]
        unfold fb
        rw [sr_eq (P := fun j => frb A ((12 * g + j) % 36)) (k := k) (by omega) (fun _ => ⟨hD.2, h⟩) hj, if_pos (by omega)]
      · rw [if_neg (fun q => h ((nI0 (by omega)).mp q))]
        exact next (fun q => h q.2)
theorem cf_blockFrom {F : Nat} {A T W : Nat → Nat} {g : Nat} (hF : 36 < F) (hM : ∀ n, n < 48 → A n ≤ 1) (hg : g < 3) : s_R_blockFrom F (zz (rM A T W)) (nI g) = some (fb A g) :=
  cf_blockFrom_2 hM hg 36 0 F rfl hF (fun j hj => absurd hj (Nat.not_lt_zero _))
-- the block for a pointer
noncomputable def bfp (M T : Nat → Nat) (i k : Nat) : Int32 := pif (k ≠ 0 ∧ pt T i (k - 1) ≠ 0 ∧ pt T i (k - 1) % 12 < 11 ∧ bm M (pt T i (k - 1) + 1) = 0) (nI (pt T i (k - 1) + 1)) (fb M (i / 6))
theorem cf_blockFor {F : Nat} {A T W : Nat → Nat} {i k : Nat} (hF : 36 < F) (hT : VT T) (hM : ∀ n, n < 48 → A n ≤ 1) (hi : i < 18) (hk : k < 3) : s_R_blockFor F (zz (rM A T W)) (nI i) (nI k) = some (bfp A T i k) := by
  have hfb : s_R_blockFor_52 F (zz (rM A T W)) (nI i) = some (fb A (i / 6)) := by
    unfold s_R_blockFor_52
    rw [pk_div (by omega) (by decide) (by decide), bd_e (cf_blockFrom hF hM (by omega))]
  unfold s_R_blockFor bfp
  by_cases h0 : k = 0
  · subst h0
    rw [if_pos (show nI 0 ≤ 0 by decide), pif_f (fun q => q.1 rfl)]
    unfold s_R_blockFor_20
    rw [if_pos (show nI 0 = 0 from rfl), hfb]
  · rw [if_neg (nI_nle (by omega) (by omega)), nI_add, bd_e (cf_at hi (by omega)), rd_t hi (by omega), show 5 * i + (1 + k) = 5 * i + 2 + (k - 1) by omega]
    have e : T (5 * i + 2 + (k - 1)) = pt T i (k - 1) := rfl
    rw [e]
    clear e
    have hp := VT_p hT hi (k := k - 1) (by omega)
    unfold s_R_blockFor_20
    show (if nI (pt T i (k - 1)) = 0 then _ else _) = _
    by_cases h1 : pt T i (k - 1) = 0
    · rw [if_pos (by rw [h1]; rfl), hfb, pif_f (fun q => q.2.1 h1)]
    · have hD := isD_p hT hi (k := k - 1) (by omega) h1
      rw [if_neg (fun q => h1 ((nI0 (by omega)).mp q)), pk_rem (a := pt T i (k - 1)) (d := 12) (by omega) (by decide) (by decide)]
      by_cases h2 : pt T i (k - 1) % 12 < 11
      · have hD' : isD (pt T i (k - 1) + 1) := ⟨by have := hD.1; omega, by have := hD.2; omega⟩
        have hm : bm A (pt T i (k - 1) + 1) ≤ 1 := hM _ (by have := hD'.1; have := hD'.2; omega)
        rw [if_neg (nI_ge h2 (by omega)), nI_add, bd_e (cf_markOfBlock hD'.1), rd_bm hD']
        by_cases h3 : bm A (pt T i (k - 1) + 1) = 0
        · rw [if_pos (by rw [h3]; rfl), pif_t ⟨h0, h1, h2, h3⟩]
        · rw [if_neg (fun q => h3 ((nI0 (by omega)).mp q)), hfb, pif_f (fun q => h3 q.2.2.2)]
      · rw [if_pos (nI_le (by omega) (by omega)), hfb, pif_f (fun q => h2 q.2.2.1)]
theorem cf_blockForPointer {F : Nat} {M T : Nat → Nat} {i k : Nat} (hF : 36 < F) (hT : VT T) (hM : ∀ n, n < 48 → M n ≤ 1) (hi : i < 18) (hk : k < 3) : s_V_blockForPointer F (zz M) (zz T) (nI i) (nI k) = some (bfp M T i k) := by
  have hfb : s_V_blockForPointer_59 F (zz M) (zz T) (nI i) = some (fb M (i / 6)) := by
    unfold s_V_blockForPointer_59
    rw [pk_div (by omega) (by decide) (by decide), bd_e (cf_freeBlock (by omega) hM (by omega))]; rfl
  unfold s_V_blockForPointer bfp
  by_cases h0 : k = 0
  · subst h0
    rw [if_pos (show nI 0 ≤ 0 by decide), pif_f (fun q => q.1 rfl)]
    unfold s_V_blockForPointer_19
    rw [if_pos (show nI 0 = 0 from rfl), hfb]
  · rw [if_neg (nI_nle (by omega) (by omega)), pk_sub (by omega), bd_e (cf_pointer hi (by omega))]
    have hp := VT_p hT hi (k := k - 1) (by omega)
    unfold s_V_blockForPointer_19
    by_cases h1 : pt T i (k - 1) = 0
    · rw [if_pos (by rw [h1]; rfl), hfb, pif_f (fun q => q.2.1 h1)]
    · have hD := isD_p hT hi (k := k - 1) (by omega) h1
      have hD1 := hD.1
      have hD2 := hD.2
      rw [if_neg (fun q => h1 ((nI0 (by omega)).mp q)), nI_add]
      by_cases h4 : 36 ≤ pt T i (k - 1) + 1
      · rw [if_pos (nI_le h4 (by omega)), hfb, pif_f (fun q => by have := q.2.2.1; omega)]
      · rw [if_neg (nI_ge (by omega) (by omega)), bd_e (cf_isData (by omega))]
        by_cases h2 : 2 ≤ (pt T i (k - 1) + 1) % 12
        · have hD' : isD (pt T i (k - 1) + 1) := ⟨by omega, h2⟩
          have hm : bm M (pt T i (k - 1) + 1) ≤ 1 := hM _ (by have := hD'.1; have := hD'.2; omega)
          rw [if_neg (fun q => if01.mp q h2), bd_e (cf_blockMark hD')]
          by_cases h3 : bm M (pt T i (k - 1) + 1) = 0
          · rw [if_pos (by rw [h3]; rfl), pif_t ⟨h0, h1, by omega, h3⟩]
          · rw [if_neg (fun q => h3 ((nI0 (by omega)).mp q)), hfb, pif_f (fun q => h3 q.2.2.2)]
        · rw [if_pos (if01.mpr h2), hfb, pif_f (fun q => h2 (by have := q.2.2.1; omega))]
theorem cf_take_12 {F : Nat} {A T W K : Nat → Nat} {b : Nat} (hb : isD b) : ∀ (r k n : Nat), k + r = 8 → r < n → s_R_take_12 F n (nI b) (nI k) (zz (rM A T (cp W z1 (8 * b) k))) (zz K) = some (zz (rM A T (cp W z1 (8 * b) 8)), zz (up K b 1)) := by
  have h1 := hb.1
  intro r
  induction r with
  | zero =>
    intro k n hk hn
    obtain ⟨n, rfl⟩ : ∃ q, n = q + 1 := ⟨n - 1, by omega⟩
    unfold s_R_take_12
    rw [if_pos (nI_le (by omega) (by omega)), ga_e b rfl h1 (by decide), nI_clamp (by omega), nar1, zz_up, show k = 8 by omega]
  | succ r ih =>
    intro k n hk hn
    obtain ⟨n, rfl⟩ : ∃ q, n = q + 1 := ⟨n - 1, by omega⟩
    unfold s_R_take_12
    rw [if_neg (nI_ge (by omega) (by omega)), show nI 30 * nI b + nI k = nI (30 * b + k) by rw [pk_mul, nI_add], ga_e (30 * b + k) rfl (by omega) (by decide), nI_clamp (by omega), zz_up, up_w hb (by omega), nI_add]
    have := ih (k + 1) n (by omega) (by omega)
    rw [← cp_s] at this
    exact this
theorem cf_take {F : Nat} {A T W K : Nat → Nat} {b : Nat} (hF : 8 < F) (hb : isD b) : s_R_take F (nI b) (zz (rM A T W)) (zz K) = some (zz (rM (up A (b / 12 * 16 + 4 + b % 12) 1) T (cp W z1 (8 * b) 8)), zz (up K b 1)) := by
  have h1 := hb.1
  unfold s_R_take
  rw [bd_e (cf_markOfBlock h1), ga_e _ rfl (by omega) (by decide), nI_clamp (by omega), zz_up, up_bm hb]
  have := cf_take_12 (F := F) (A := up A (b / 12 * 16 + 4 + b % 12) 1) (T := T) (W := W) (K := K) hb 8 0 F rfl hF
  rw [cp_0] at this; exact this
theorem cf_takeBlock {F : Nat} {M W K Y : Nat → Nat} {b : Nat} (hF : 8 < F) (hb : isD b) : s_V_takeBlock F (nI b) (zz M) (zz W) (zz K) (zz Y) = some (zz (up M (b / 12 * 16 + 4 + b % 12) 1), zz (cp W z1 (8 * b) 8), zz (up K b 1), zz (up Y b 0)) := by
  have h1 := hb.1
  unfold s_V_takeBlock
  rw [bd_e (cf_setBlockMark hb), bd_e (cf_clearWords hF h1), bd_e (cf_setBlank h1 (by omega)), ga_e b rfl h1 (by decide), nI_clamp (by omega), zz_up]
