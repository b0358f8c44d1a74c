-- closed forms of the reference: reading
theorem cf_at {i f : Nat} (hi : i < 18) (hf : f < 5) : s_R_at (nI i) (nI f) = some (nI ((i / 6 * 12 + 1) * 30 + i % 6 * 5 + f)) := by
  unfold s_R_at
  rw [pk_rem (a := i) (d := 6) (by omega) (by decide) (by decide), pk_div (a := i) (d := 6) (by omega) (by decide) (by decide), pk_mul, nI_add, pk_mul, pk_mul, nI_add, nI_add]
theorem cf_markOfInode {i : Nat} (hi : i < 18) : s_R_markOfInode (nI i) = some (nI (i / 6 * 12 * 30 + i % 6)) := by
  unfold s_R_markOfInode
  rw [pk_rem (a := i) (d := 6) (by omega) (by decide) (by decide), pk_div (a := i) (d := 6) (by omega) (by decide) (by decide), pk_mul, pk_mul, nI_add]
theorem cf_markOfBlock {b : Nat} (hb : b < 36) : s_R_markOfBlock (nI b) = some (nI (b / 12 * 12 * 30 + 4 + b % 12)) := by
  unfold s_R_markOfBlock
  rw [pk_rem (a := b) (d := 12) (by omega) (by decide) (by decide), pk_div (a := b) (d := 12) (by omega) (by decide) (by decide), pk_mul, pk_mul, nI_add, nI_add]
theorem cf_size {b : Nat} (hb : b < 36) : s_R_size (nI b) = some (nI (sz b)) := cf_cellCount hb
section RD
variable {α : Type} {A B C : Nat → Nat} {k : Int32 → Option α}
theorem rd_t {i f : Nat} (hi : i < 18) (hf : f < 5) : gr (zz (rM A B C)) 1080 (nI ((i / 6 * 12 + 1) * 30 + i % 6 * 5 + f)) k = k (nI (B (5 * i + f))) := by
  rw [gr_e _ rfl (by omega) (by decide)]
  show k (nI (rM A B C _)) = _
  rw [rM_t hi hf]
theorem rd_im {i : Nat} (hi : i < 18) : gr (zz (rM A B C)) 1080 (nI (i / 6 * 12 * 30 + i % 6)) k = k (nI (im A i)) := by
  rw [gr_e _ rfl (by omega) (by decide)]
  show k (nI (rM A B C _)) = _
  rw [rM_im hi]
theorem rd_bm {b : Nat} (hb : isD b) : gr (zz (rM A B C)) 1080 (nI (b / 12 * 12 * 30 + 4 + b % 12)) k = k (nI (bm A b)) := by
  have := hb.1
  rw [gr_e _ rfl (by omega) (by decide)]
  show k (nI (rM A B C _)) = _
  rw [rM_bm hb]
theorem rd_w {b c : Nat} (hb : isD b) (hc : c < 8) : gr (zz (rM A B C)) 1080 (nI 30 * nI b + nI c) k = k (nI (C (8 * b + c))) := by
  have := hb.1
  rw [gr_e (30 * b + c) (by rw [pk_mul, nI_add]) (by omega) (by decide)]
  show k (nI (rM A B C _)) = _
  rw [rM_w hb hc]
end RD
theorem cf_seen {A B C K : Nat → Nat} {b c : Nat} (hb : isD b) (hc : c < 8) (hK : K b ≤ 1) : s_R_seen (zz (rM A B C)) (zz K) (nI b) (nI c) = some (if K b = 0 then nI (C (8 * b + c)) else nI 0) := by
  unfold s_R_seen
  rw [gr_e b rfl hb.1 (by decide), rd_w hb hc]
  show (if nI (K b) = 0 then _ else _) = _
  by_cases h : K b = 0
  · rw [if_pos h, if_pos (by rw [h]; rfl)]
  · rw [if_neg h, if_neg (fun q => h ((nI0 (by omega)).mp q))]
theorem isD_p {T : Nat → Nat} (hT : VT T) {i k : Nat} (hi : i < 18) (hk : k < 3) (h : pt T i k ≠ 0) : isD (pt T i k) := ((hT i hi).2.2 k hk).resolve_left h
theorem cf_owner_10 {F : Nat} {A T C : Nat → Nat} {k2 : Int32 → Int32 → Option Int32} {b i : Nat} (hT : VT T) (hb : b < 2 ^ 31) (hi : i < 18) : ∀ (r k n : Nat), k + r = 3 → r < n → s_R_owner_10 F (zz (rM A T C)) k2 n (nI b) (nI i) (nI (2 + k)) = pif (∃ k', k ≤ k' ∧ k' < 3 ∧ pt T i k' = b) (some (nI (kd T i))) (k2 (nI b) (nI (i + 1))) := by
  intro r
  induction r with
  | zero =>
    intro k n hk hn
    obtain ⟨n, rfl⟩ : ∃ q, n = q + 1 := ⟨n - 1, by omega⟩
    unfold s_R_owner_10
    rw [if_pos (nI_le (by omega) (by omega)), pif_f (fun ⟨k', q1, q2, _⟩ => by omega), nI_add]
  | succ r ih =>
    intro k n hk hn
    obtain ⟨n, rfl⟩ : ∃ q, n = q + 1 := ⟨n - 1, by omega⟩
    have := VT_p hT hi (k := k) (by omega)
    unfold s_R_owner_10
    rw [if_neg (nI_ge (by omega) (by omega)), bd_e (cf_at hi (by omega)), rd_t hi (by omega), bd_e (cf_at hi (by omega)), rd_t hi (by omega), Nat.add_zero, show 5 * i + (2 + k) = 5 * i + 2 + k by omega]
    by_cases h : pt T i k = b
    · rw [if_pos (by rw [← h]), pif_t ⟨k, Nat.le_refl _, by omega, h⟩]
    · rw [if_neg (fun q => h ((nI_eq (by omega) hb).mp q)), nI_add, show 2 + k + 1 = 2 + (k + 1) by omega, ih (k + 1) n (by omega) (by omega)]
      refine pif_congr ⟨fun ⟨k', q1, q2, q3⟩ => ⟨k', by omega, q2, q3⟩, fun ⟨k', q1, q2, q3⟩ => ⟨k', ?_, q2, q3⟩⟩
      by_cases e : k' = k
      · subst e; exact absurd q3 h
      · omega
-- the KIND of the least inode that names b, or 0
noncomputable def ow (T : Nat → Nat) (b : Nat) : Nat := if sr (fun i => ∃ k', k' < 3 ∧ pt T i k' = b) 18 < 18 then kd T (sr (fun i => ∃ k', k' < 3 ∧ pt T i k' = b) 18) else 0
theorem cf_owner_2 {F : Nat} {A T C : Nat → Nat} {b : Nat} (hF : 3 < F) (hT : VT T) (hb : b < 2 ^ 31) : ∀ (r k n : Nat), k + r = 18 → r < n → (∀ j, j < k → ¬ ∃ k', k' < 3 ∧ pt T j k' = b) → s_R_owner_2 F (zz (rM A T C)) n (nI b) (nI k) = some (nI (ow T b)) := by
  intro r
  induction r with
  | zero =>
    intro k n hk hn hj
    obtain ⟨n, rfl⟩ : ∃ q, n = q + 1 := ⟨n - 1, by omega⟩
    unfold s_R_owner_2 ow
    have e8 : k = 18 := by omega
    subst e8
    rw [if_pos (nI_le (by omega) (by omega)), sr_none.mpr hj, if_neg (by omega)]
  | succ r ih =>
    intro k n hk hn hj
    obtain ⟨n, rfl⟩ : ∃ q, n = q + 1 := ⟨n - 1, by omega⟩
    unfold s_R_owner_2
    have := cf_owner_10 (F := F) (A := A) (C := C) (k2 := s_R_owner_2 F (zz (rM A T C)) n) hT hb (i := k) (by omega) 3 0 F rfl hF
    rw [if_neg (nI_ge (by omega) (by omega)), this]
    by_cases h : ∃ k', k' < 3 ∧ pt T k k' = b
    · rw [pif_t (by obtain ⟨k', q1, q2⟩ := h; exact ⟨k', Nat.zero_le _, q1, q2⟩)]
      unfold ow
      rw [sr_eq (P := fun i => ∃ k', k' < 3 ∧ pt T i k' = b) (k := k) (by omega) (fun _ => h) hj, if_pos (by omega)]
    · rw [pif_f (fun ⟨k', _, q1, q2⟩ => h ⟨k', q1, q2⟩)]
      refine ih (k + 1) n (by omega) (by omega) (fun j hj2 => ?_)
      by_cases e : j = k
      · subst e; exact h
      · exact hj j (by omega)
theorem cf_owner {F : Nat} {A T C : Nat → Nat} {b : Nat} (hF : 18 < F) (hT : VT T) (hb : b < 2 ^ 31) : s_R_owner F (zz (rM A T C)) (nI b) = some (nI (ow T b)) :=
  cf_owner_2 (by omega) hT hb 18 0 F rfl hF (fun j hj => absurd hj (Nat.not_lt_zero _))
theorem cf_namedOnDisk_10 {F : Nat} {A T C : Nat → Nat} {k2 : Int32 → Int32 → Option Int32} {b i : Nat} (hT : VT T) (hb : b < 2 ^ 31) (hi : i < 18) : ∀ (r k n : Nat), k + r = 3 → r < n → s_R_namedOnDisk_10 F (zz (rM A T C)) k2 n (nI b) (nI i) (nI (2 + k)) = pif (∃ k', k ≤ k' ∧ k' < 3 ∧ pt T i k' = b) (some (nI 1)) (k2 (nI b) (nI (i + 1))) := by
  intro r
  induction r with
  | zero =>
    intro k n hk hn
    obtain ⟨n, rfl⟩ : ∃ q, n = q + 1 := ⟨n - 1, by omega⟩
    unfold s_R_namedOnDisk_10
    rw [if_pos (nI_le (by omega) (by omega)), pif_f (fun ⟨k', q1, q2, _⟩ => by omega), nI_add]
  | succ r ih =>
    intro k n hk hn
    obtain ⟨n, rfl⟩ : ∃ q, n = q + 1 := ⟨n - 1, by omega⟩
    have := VT_p hT hi (k := k) (by omega)
    unfold s_R_namedOnDisk_10
    rw [if_neg (nI_ge (by omega) (by omega)), bd_e (cf_at hi (by omega)), rd_t hi (by omega), show 5 * i + (2 + k) = 5 * i + 2 + k by omega]
    by_cases h : pt T i k = b
    · rw [if_pos (by rw [← h]), pif_t ⟨k, Nat.le_refl _, by omega, h⟩]
    · rw [if_neg (fun q => h ((nI_eq (by omega) hb).mp q)), nI_add, show 2 + k + 1 = 2 + (k + 1) by omega, ih (k + 1) n (by omega) (by omega)]
      refine pif_congr ⟨fun ⟨k', q1, q2, q3⟩ => ⟨k', by omega, q2, q3⟩, fun ⟨k', q1, q2, q3⟩ => ⟨k', ?_, q2, q3⟩⟩
      by_cases e : k' = k
      · subst e; exact absurd q3 h
      · omega
theorem cf_namedOnDisk_2 {F : Nat} {A T C : Nat → Nat} {b : Nat} (hF : 3 < F) (hT : VT T) (hb : b < 2 ^ 31) : ∀ (r k n : Nat), k + r = 18 → r < n → (∀ j, j < k → ¬ ∃ k', k' < 3 ∧ pt T j k' = b) → s_R_namedOnDisk_2 F (zz (rM A T C)) n (nI b) (nI k) = some (pif (∃ i k', i < 18 ∧ k' < 3 ∧ pt T i k' = b) (nI 1) (nI 0)) := by
  intro r
  induction r with
  | zero =>
    intro k n hk hn hj
    obtain ⟨n, rfl⟩ : ∃ q, n = q + 1 := ⟨n - 1, by omega⟩
    unfold s_R_namedOnDisk_2
    rw [if_pos (nI_le (by omega) (by omega)), pif_f (fun ⟨i, k', q1, q2, q3⟩ => hj i (by omega) ⟨k', q2, q3⟩)]
  | succ r ih =>
    intro k n hk hn hj
    obtain ⟨n, rfl⟩ : ∃ q, n = q + 1 := ⟨n - 1, by omega⟩
    unfold s_R_namedOnDisk_2
    have := cf_namedOnDisk_10 (F := F) (A := A) (C := C) (k2 := s_R_namedOnDisk_2 F (zz (rM A T C)) n) hT hb (i := k) (by omega) 3 0 F rfl hF
    rw [if_neg (nI_ge (by omega) (by omega)), this]
    by_cases h : ∃ k', k' < 3 ∧ pt T k k' = b
    · rw [pif_t (by obtain ⟨k', q1, q2⟩ := h; exact ⟨k', Nat.zero_le _, q1, q2⟩), pif_t (by obtain ⟨k', q1, q2⟩ := h; exact ⟨k, k', by omega, q1, q2⟩)]
    · rw [pif_f (fun ⟨k', _, q1, q2⟩ => h ⟨k', q1, q2⟩)]
      refine ih (k + 1) n (by omega) (by omega) (fun j hj2 => ?_)
      by_cases e : j = k
      · subst e; exact h
      · exact hj j (by omega)
theorem cf_namedOnDisk {F : Nat} {A T C : Nat → Nat} {b : Nat} (hF : 18 < F) (hT : VT T) (hb : b < 2 ^ 31) : s_R_namedOnDisk F (zz (rM A T C)) (nI b) = some (pif (∃ i k', i < 18 ∧ k' < 3 ∧ pt T i k' = b) (nI 1) (nI 0)) :=
  cf_namedOnDisk_2 (by omega) hT hb 18 0 F rfl hF (fun j hj => absurd hj (Nat.not_lt_zero _))
-- flags
noncomputable def bz (S : Nat → Prop) : Nat → Int32 := fun j => pif (S j) (nI 1) (nI 0)
theorem bz_1 {S : Nat → Prop} {k : Nat} : upd (bz S) k (nI 1) = bz (fun j => S j ∨ j = k) := by
  funext j
  by_cases e : j = k
  · subst e; rw [pk_us]; unfold bz; rw [pif_t (Or.inr rfl)]
  · rw [pk_un e]; unfold bz; exact pif_congr ⟨Or.inl, fun q => q.resolve_right e⟩
theorem bz_0 {S : Nat → Prop} {k : Nat} : upd (bz S) k (nI 0) = bz (fun j => S j ∧ j ≠ k) := by
  funext j
  by_cases e : j = k
  · subst e; rw [pk_us]; unfold bz; rw [pif_f (fun q => q.2 rfl)]
  · rw [pk_un e]; unfold bz; exact pif_congr ⟨fun q => ⟨q, e⟩, fun q => q.1⟩
theorem bz_congr {S S' : Nat → Prop} (h : ∀ j, S j ↔ S' j) : bz S = bz S' := by
  funext j; exact pif_congr (h j)
theorem bz_z0 : (fun _ => 0 : Nat → Int32) = bz (fun _ => False) := by
  funext j; unfold bz; rw [pif_f (fun q => q)]; rfl
theorem nar1 : vp_nar .boolean (nI 1) = nI 1 := rfl
theorem nar0 : vp_nar .boolean (nI 0) = nI 0 := rfl
-- the tree by rounds
theorem cf_spread_73m {F : Nat} {A T W : Nat → Nat} {dsk fresh : Nat → Int32} {i : Nat} (hT : VT T) (hE : VE T W z1) (hi : i < 18) (h2 : kd T i = 2) (h0 : pt T i 0 ≠ 0) : ∀ (r c n : Nat) (S : Nat → Prop), c + r = 8 → r < n → s_R_spread_inMemory_73 F (zz (rM A T W)) dsk fresh n (nI 0) (nI (pt T i 0)) (nI c) (bz S) = some (bz (fun j => S j ∨ ∃ c', c ≤ c' ∧ c' < 8 ∧ en T W z1 i c' ≠ 0 ∧ en T W z1 i c' % 32 = j)) := by
  have hD := isD_p hT hi (k := 0) (by omega) h0
  have he : ∀ c, en T W z1 i c = W (8 * pt T i 0 + c) := fun c => by unfold en; rw [if_pos ⟨h2, h0, rfl⟩]
  intro r
  induction r with
  | zero =>
    intro c n S hc hn
    obtain ⟨n, rfl⟩ : ∃ q, n = q + 1 := ⟨n - 1, by omega⟩
    unfold s_R_spread_inMemory_73
    rw [if_pos (nI_le (by omega) (by omega))]
    congr 1
    exact bz_congr (fun j => ⟨Or.inl, fun q => q.resolve_right (fun ⟨c', q1, q2, _⟩ => by omega)⟩)
  | succ r ih =>
    intro c n S hc hn
    obtain ⟨n, rfl⟩ : ∃ q, n = q + 1 := ⟨n - 1, by omega⟩
    obtain ⟨v1, v2⟩ := hE i c hi (by omega)
    unfold s_R_spread_inMemory_73 s_R_spread_inMemory_108
    rw [if_neg (nI_ge (by omega) (by omega)), if_pos (show nI 0 = 0 from rfl), rd_w hD (by omega), ← he c, nI_add]
    by_cases hz : en T W z1 i c = 0
    · rw [if_pos (by rw [hz]; rfl), ih (c + 1) n S (by omega) (by omega)]
      congr 1
      refine bz_congr (fun j => or_congr_right ⟨fun ⟨c', q1, q2⟩ => ⟨c', by omega, q2⟩, fun ⟨c', q1, q2, q3, q4⟩ => ⟨c', ?_, q2, q3, q4⟩⟩)
      by_cases e : c' = c
      · subst e; exact absurd hz q3
      · omega
    · have h18 := v2 hz
      rw [if_neg (fun q => hz ((nI0 v1).mp q)), pk_rem v1 (by decide) (by decide), ga_e _ rfl h18 (by decide), nI_clamp (by omega), nar1, bz_1, ih (c + 1) n _ (by omega) (by omega)]
      congr 1
      refine bz_congr (fun j => ⟨fun q => ?_, fun q => ?_⟩)
      · rcases q with (q | q) | ⟨c', q1, q2⟩
        · exact Or.inl q
        · exact Or.inr ⟨c, Nat.le_refl _, by omega, hz, q.symm⟩
        · exact Or.inr ⟨c', by omega, q2⟩
      · rcases q with q | ⟨c', q1, q2, q3, q4⟩
        · exact Or.inl (Or.inl q)
        · by_cases e : c' = c
          · subst e; exact Or.inl (Or.inr q4.symm)
          · exact Or.inr ⟨c', by omega, q2, q3, q4⟩
theorem cf_spread_m {F : Nat} {A T W : Nat → Nat} {dsk fresh : Nat → Int32} {i : Nat} (hF : 8 < F) (hT : VT T) (hE : VE T W z1) (hi : i < 18) (S : Nat → Prop) : s_R_spread_inMemory F (zz (rM A T W)) dsk fresh (nI 0) (nI i) (bz S) = some (bz (fun j => S j ∨ Ed T W z1 i j)) := by
  have hk := VT_k hT hi
  have hp := VT_p hT hi (k := 0) (by omega)
  unfold s_R_spread_inMemory s_R_spread_inMemory_27 s_R_spread_inMemory_56
  rw [if_pos (show nI 0 = 0 from rfl), bd_e (cf_at hi (by omega)), rd_t hi (by omega), if_pos (show nI 0 = 0 from rfl), bd_e (cf_at hi (by omega)), rd_t hi (by omega)]
  show (if nI (kd T i) = nI 2 then (if nI (pt T i 0) = 0 then _ else _) else _) = _
  by_cases h2 : kd T i = 2
  · rw [if_pos (by rw [h2])]
    by_cases h0 : pt T i 0 = 0
    · rw [if_pos (by rw [h0]; rfl)]
      congr 1
      refine bz_congr (fun j => ⟨Or.inl, fun q => q.resolve_right (fun ⟨c, _, q1, _⟩ => q1 ?_)⟩)
      unfold en; rw [if_neg (fun z => z.2.1 h0)]
    · rw [if_neg (fun q => h0 ((nI0 (by omega)).mp q))]
      have := cf_spread_73m (F := F) (A := A) (dsk := dsk) (fresh := fresh) hT hE hi h2 h0 8 0 F S rfl hF
      refine Eq.trans this ?_
      congr 1
      exact bz_congr (fun j => or_congr_right ⟨fun ⟨c, _, q⟩ => ⟨c, q⟩, fun ⟨c, q⟩ => ⟨c, Nat.zero_le _, q⟩⟩)
  · rw [if_neg (fun q => h2 ((nI_eq (by omega) (by decide)).mp q))]
    congr 1
    refine bz_congr (fun j => ⟨Or.inl, fun q => q.resolve_right (fun ⟨c, _, q1, _⟩ => q1 ?_)⟩)
    unfold en; rw [if_neg (fun z => h2 z.1)]
