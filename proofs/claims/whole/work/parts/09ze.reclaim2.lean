-- reclaim: the class
def d3k (M D : Nat → Nat) (k : Nat) : Nat → Nat := fun m => if m < 48 ∧ m / 16 * 12 < k then M m else D m
def d4k (T D : Nat → Nat) (k : Nat) : Nat → Nat := fun m => if m < 90 ∧ m / 30 * 12 + 1 < k then T m else D m
section RV
variable {n F : Nat} {σ : St} {x : Int32}
theorem d3_0 {M D : Nat → Nat} : d3k M D 0 = D := by funext m; unfold d3k; rw [if_neg (by omega)]
theorem d4_0 {M D : Nat → Nat} : d4k M D 0 = D := by funext m; unfold d4k; rw [if_neg (by omega)]
theorem d3_c {M D : Nat → Nat} {b : Nat} (hb : b < 36) (h : b % 12 = 0) : cp (d3k M D b) M (b / 12 * 16) 16 = d3k M D (b + 1) := by
  funext m; unfold cp d3k
  by_cases e : b / 12 * 16 ≤ m ∧ m < b / 12 * 16 + 16
  · rw [if_pos e, if_pos (by omega)]
  · rw [if_neg e]
    by_cases a : m < 48 ∧ m / 16 * 12 < b
    · rw [if_pos a, if_pos (by omega)]
    · rw [if_neg a, if_neg (by omega)]
theorem d4_c {M D : Nat → Nat} {b : Nat} (hb : b < 36) (h : b % 12 = 1) : cp (d4k M D b) M (b / 12 * 30) 30 = d4k M D (b + 1) := by
  funext m; unfold cp d4k
  by_cases e : b / 12 * 30 ≤ m ∧ m < b / 12 * 30 + 30
  · rw [if_pos e, if_pos (by omega)]
  · rw [if_neg e]
    by_cases a : m < 90 ∧ m / 30 * 12 + 1 < b
    · rw [if_pos a, if_pos (by omega)]
    · rw [if_neg a, if_neg (by omega)]
theorem d3_n {M D : Nat → Nat} {b : Nat} (h : b % 12 ≠ 0) : d3k M D (b + 1) = d3k M D b := by
  funext m; unfold d3k
  by_cases a : m < 48 ∧ m / 16 * 12 < b
  · rw [if_pos a, if_pos (by omega)]
  · rw [if_neg a, if_neg (by omega)]
theorem d4_n {M D : Nat → Nat} {b : Nat} (h : b % 12 ≠ 1) : d4k M D (b + 1) = d4k M D b := by
  funext m; unfold d4k
  by_cases a : m < 90 ∧ m / 30 * 12 + 1 < b
  · rw [if_pos a, if_pos (by omega)]
  · rw [if_neg a, if_neg (by omega)]
section
variable {mq dq d0 d1 d2 d3 y dr l : AR} {rn : Int32}
theorem rv_18 (hF : 40 < F) (hI : Inv n σ) (hx : bt x 0 = true) : ∀ (r k m : Nat), k + r = 18 → r < m → s_V_reclaim_18 F (zz (σ 2)) (zz z1) m x (nI (cI σ (fun j => bt x j = true) k)) (nI k) (zz (rMk σ (fun j => bt x j = true) k 0)) (zz (rT1 σ (fun j => bt x j = true) k)) mq d0 d1 d2 d3 dq y dr l rn = s_V_reclaim_83 F (zz (σ 2)) (zz z1) F x (nI (cI σ (fun j => bt x j = true) 18)) (nI 0) (zz (rMk σ (fun j => bt x j = true) 18 0)) (zz (rT1 σ (fun j => bt x j = true) 18)) mq d0 d1 d2 d3 dq y dr l rn := by
  have hT := Inv_VT1 hI
  have hE := VEm hI.2.1
  intro r
  induction r with
  | zero =>
    intro k m hk hm
    obtain ⟨m, rfl⟩ : ∃ q, m = q + 1 := ⟨m - 1, by omega⟩
    unfold s_V_reclaim_18
    rw [if_pos (nI_le (by omega) (by omega)), show k = 18 by omega]
  | succ r ih =>
    intro k m hk hm
    obtain ⟨m, rfl⟩ : ∃ q, m = q + 1 := ⟨m - 1, by omega⟩
    have this := ih (k + 1) m (by omega) (by omega)
    have hk18 : k < 18 := by omega
    have hK := KT_1 (σ := σ) (S := fun j => bt x j = true) hT (k := k)
    unfold s_V_reclaim_18
    rw [if_neg (nI_ge (by omega) (by omega)), bd_e (cf_has (by omega))]
    by_cases s : bt x k = true
    · rw [if_pos s, if_neg nn1]
      rw [cI_t (S := fun j => bt x j = true) s, rMk_it (S := fun j => bt x j = true) hk18 s] at this
      by_cases k0 : k = 0
      · rw [if_pos (by rw [k0]; rfl), nI_add]
        subst k0
        rw [rT1_z (S := fun j => bt x j = true) s] at this
        exact this
      · rw [if_neg (fun z => k0 ((nI0 (by omega)).mp z)), bd_e (cf_entriesFor (by omega) (KT_VT hT hK) z1_le (KT_VE hE hK) (by omega)), KT_EF hK, bd_e (cf_setLinks hk18), rT1_l (S := fun j => bt x j = true) s k0, nI_add]
        exact this
    · rw [if_neg s, if_pos nI_0, bd_e (cf_inodeMark hk18), (rMk_im (σ := σ) (S := fun j => bt x j = true) (k := k)).resolve_right (by omega), bd_e (cf_wipeInode (by omega) hk18), nI_add, nI_add]
      rw [cI_f (S := fun j => bt x j = true) s, ← rMk_if (S := fun j => bt x j = true) hk18 s, ← rT1_w (S := fun j => bt x j = true) s] at this
      exact this
theorem rv_83 (hF : 40 < F) (hI : Inv n σ) : ∀ (r b m : Nat), b + r = 36 → r < m → s_V_reclaim_83 F (zz (σ 2)) (zz z1) m x (nI (cI σ (fun j => bt x j = true) 18 + cBw σ (fun j => bt x j = true) b)) (nI b) (zz (rMk σ (fun j => bt x j = true) 18 b)) (zz (rT1 σ (fun j => bt x j = true) 18)) mq d0 d1 d2 d3 dq y dr l rn = s_V_reclaim_136 F (zz (σ 2)) (zz z1) F (nI (cI σ (fun j => bt x j = true) 18 + cBw σ (fun j => bt x j = true) 36)) (nI 0) (zz (rMk σ (fun j => bt x j = true) 18 36)) (zz (rT1 σ (fun j => bt x j = true) 18)) mq d0 d1 d2 d3 dq y dr l rn := by
  have hT := Inv_VT1 hI
  have hE := VEm hI.2.1
  have hK := KT_1 (σ := σ) (S := fun j => bt x j = true) hT (k := 18)
  intro r
  induction r with
  | zero =>
    intro b m hb hm
    obtain ⟨m, rfl⟩ : ∃ q, m = q + 1 := ⟨m - 1, by omega⟩
    unfold s_V_reclaim_83
    rw [if_pos (nI_le (by omega) (by omega)), show b = 36 by omega]
  | succ r ih =>
    intro b m hb hm
    obtain ⟨m, rfl⟩ : ∃ q, m = q + 1 := ⟨m - 1, by omega⟩
    have this := ih (b + 1) m (by omega) (by omega)
    unfold s_V_reclaim_83
    rw [if_neg (nI_ge (by omega) (by omega)), bd_e (cf_isData (by omega))]
    by_cases h2 : 2 ≤ b % 12
    · have hD : isD b := ⟨by omega, h2⟩
      have pl := PF_le (T := σ 1) (S := fun j => bt x j = true) (b := b)
      rw [if_pos h2, if_neg nn1, bd_e (cf_pointersTo (by omega) (KT_VT hT hK) (by omega)), KT_PF hK]
      by_cases p : PF (σ 1) (fun j => bt x j = true) b = 0
      · rw [if_pos (by rw [p]; rfl), bd_e (cf_blockMark hD), rMk_bm hD, bd_e (cf_setBlockMark hD), rMk_bf hD p, nI_add, nI_add]
        rw [cB_f ⟨h2, p⟩, ← Nat.add_assoc] at this
        exact this
      · rw [if_neg (fun z => p ((nI0 (by omega)).mp z)), nI_add]
        rw [cB_t (fun z => p z.2), rMk_bt (fun z => p z.2)] at this
        exact this
    · rw [if_neg h2, if_pos nI_0, nI_add]
      rw [cB_t (fun z => h2 z.1), rMk_bt (fun z => h2 z.1)] at this
      exact this
theorem rv_136 {M T D0 D1 D2 : Nat → Nat} {c : Int32} (hF : 40 < F) : ∀ (r b m : Nat), b + r = 36 → r < m → s_V_reclaim_136 F (zz (σ 2)) (zz z1) m c (nI b) (zz M) (zz T) mq (zz (d3k M D0 b)) (zz (d4k T D1 b)) (zz D2) d3 dq y dr l rn = some (c, zz M, zz T, mq, zz (d3k M D0 36), zz (d4k T D1 36), zz D2, d3, dq, y, dr, l, rn) := by
  intro r
  induction r with
  | zero =>
    intro b m hb hm
    obtain ⟨m, rfl⟩ : ∃ q, m = q + 1 := ⟨m - 1, by omega⟩
    unfold s_V_reclaim_136
    rw [if_pos (nI_le (by omega) (by omega)), show b = 36 by omega]
  | succ r ih =>
    intro b m hb hm
    obtain ⟨m, rfl⟩ : ∃ q, m = q + 1 := ⟨m - 1, by omega⟩
    have this := ih (b + 1) m (by omega) (by omega)
    unfold s_V_reclaim_136
    rw [if_neg (nI_ge (by omega) (by omega)), bd_e (cf_isData (by omega))]
    by_cases h2 : 2 ≤ b % 12
    · rw [if_pos h2, if_neg nn1, nI_add]
      rw [d3_n (by omega), d4_n (by omega)] at this
      exact this
    · rw [if_neg h2, if_pos nI_0]
      by_cases h0 : b % 12 = 0
      · rw [bd_e (cf_copyBlock_0 (by omega) (by omega) h0), d3_c (by omega) h0, nI_add]
        rw [d4_n (by omega)] at this
        exact this
      · rw [bd_e (cf_copyBlock_1 (by omega) (by omega) (by omega)), d4_c (by omega) (by omega), nI_add]
        rw [d3_n (by omega)] at this
        exact this
end
end RV
-- reclaim: the reference
section RR
variable {n F : Nat} {σ : St} {S : Nat → Prop} {y dr fr rl od ct i2 i3 : AR} {mv : Int32}
theorem rr_35 {k18 : Int32 → Int32 → AR → AR → AR → AR → AR → AR → AR → AR → AR → AR → AR → Int32 → Option (Int32 × AR × AR × AR × AR × AR × AR × AR × AR × AR × AR × AR × Int32)} {M T W : Nat → Nat} {dsk i1 : AR} {x1 : Int32} {k : Nat} (hk : k < 18) : ∀ (r c m : Nat), c + r = 5 → r < m → s_R_reclaim_35 F k18 m x1 (nI k) (nI c) y dr (zz (rM M (cp T z1 (5 * k) c) W)) dsk fr rl od ct i1 i2 i3 mv = k18 (x1 + nI (im M k)) (nI (k + 1)) y dr (zz (rM (up M (k / 6 * 16 + k % 6) 0) (cp T z1 (5 * k) 5) W)) dsk fr rl od ct i1 i2 i3 mv := by
  intro r
  induction r with
  | zero =>
    intro c m hc hm
    obtain ⟨m, rfl⟩ : ∃ q, m = q + 1 := ⟨m - 1, by omega⟩
    unfold s_R_reclaim_35
    rw [if_pos (nI_le (by omega) (by omega)), bd_e (cf_markOfInode hk), rd_im hk, bd_e (cf_markOfInode hk), ga_e _ rfl (by omega) (by decide), nI_clamp (by omega), zz_up, up_im hk, nI_add, show c = 5 by omega]
  | succ r ih =>
    intro c m hc hm
    obtain ⟨m, rfl⟩ : ∃ q, m = q + 1 := ⟨m - 1, by omega⟩
    have this := ih (c + 1) m (by omega) (by omega)
    unfold s_R_reclaim_35
    rw [if_neg (nI_ge (by omega) (by omega)), bd_e (cf_at hk (by omega)), ga_e _ rfl (by omega) (by decide), nI_clamp (by omega), zz_up, up_t hk (by omega), nI_add]
    have e : up (cp T z1 (5 * k) c) (5 * k + c) 0 = cp T z1 (5 * k) (c + 1) := cp_s
    rw [e]; exact this
theorem rr_18 {dsk : AR} (hF : 40 < F) : ∀ (r k m : Nat), k + r = 18 → r < m → s_R_reclaim_18 F m (nI (cI σ S k)) (nI k) y dr (zz (rM (rMk σ S k 0) (rT2 σ S k) (σ 2))) dsk fr rl od ct (bz S) i2 i3 mv = s_R_reclaim_87 F F (nI (cI σ S 18)) (nI 1) y dr (zz (rM (rMk σ S 18 0) (rT2 σ S 18) (σ 2))) dsk fr rl od ct (bz S) i2 i3 mv := by
  intro r
  induction r with
  | zero =>
    intro k m hk hm
    obtain ⟨m, rfl⟩ : ∃ q, m = q + 1 := ⟨m - 1, by omega⟩
    unfold s_R_reclaim_18
    rw [if_pos (nI_le (by omega) (by omega)), show k = 18 by omega]
  | succ r ih =>
    intro k m hk hm
    obtain ⟨m, rfl⟩ : ∃ q, m = q + 1 := ⟨m - 1, by omega⟩
    have this := ih (k + 1) m (by omega) (by omega)
    have hk18 : k < 18 := by omega
    unfold s_R_reclaim_18
    rw [if_neg (nI_ge (by omega) (by omega)), gr_e k rfl hk18 (by decide)]
    show (if pif (S k) (nI 1) (nI 0) = 0 then _ else _) = _
    by_cases s : S k
    · rw [if_neg (fun z => pif01.mp z s), nI_add]
      rw [cI_t s, rMk_it hk18 s, rT2_t s] at this
      exact this
    · rw [if_pos (pif01.mpr s)]
      have g := rr_35 (F := F) (k18 := s_R_reclaim_18 F m) (M := rMk σ S k 0) (T := rT2 σ S k) (W := σ 2) (dsk := dsk) (i1 := bz S) (x1 := nI (cI σ S k)) (y := y) (dr := dr) (fr := fr) (rl := rl) (od := od) (ct := ct) (i2 := i2) (i3 := i3) (mv := mv) hk18 5 0 F rfl (by omega)
      rw [cp_0] at g
      rw [g, (rMk_im (σ := σ) (S := S) (k := k)).resolve_right (by omega), nI_add, rMk_if hk18 s, rT2_w s]
      rw [cI_f s] at this
      exact this
theorem rr_87 {dsk : AR} {x1 : Int32} {M : Nat → Nat} (hF : 40 < F) (hI : Inv n σ) : ∀ (r k m : Nat), k + r = 18 → r < m → 1 ≤ k → s_R_reclaim_87 F m x1 (nI k) y dr (zz (rM M (rT3 σ S k) (σ 2))) dsk fr rl od ct (bz S) i2 i3 mv = s_R_reclaim_134 F F x1 (nI 0) y dr (zz (rM M (rT3 σ S 18) (σ 2))) dsk fr rl od ct (bz S) i2 i3 mv := by
  have hT := Inv_VT1 hI
  have hE := VEm hI.2.1
  intro r
  induction r with
  | zero =>
    intro k m hk hm _
    obtain ⟨m, rfl⟩ : ∃ q, m = q + 1 := ⟨m - 1, by omega⟩
    unfold s_R_reclaim_87
    rw [if_pos (nI_le (by omega) (by omega)), show k = 18 by omega]
  | succ r ih =>
    intro k m hk hm k1
    obtain ⟨m, rfl⟩ : ∃ q, m = q + 1 := ⟨m - 1, by omega⟩
    have this := ih (k + 1) m (by omega) (by omega) (by omega)
    have hk18 : k < 18 := by omega
    have hK := KT_3 (σ := σ) (S := S) hT (k := k)
    unfold s_R_reclaim_87 s_R_reclaim_125
    rw [if_neg (nI_ge (by omega) (by omega)), bd_e (cf_at hk18 (by omega)), gr_e k rfl hk18 (by decide), e_s_R_entriesFor_inMemory, bd_e (cf_entriesForR (K := z1) (by omega) (KT_VT hT hK) z1_le (KT_VE hE hK) (Or.inl ⟨rfl, rfl, rfl⟩) (by omega)), KT_EF hK, ga_e _ rfl (by omega) (by decide), ga_e _ rfl (by omega) (by decide), nI_clamp (by omega), zz_up, zz_up, up_t hk18 (by omega), up_t hk18 (by omega), nI_add]
    show (if pif (S k) (nI 1) (nI 0) = 0 then _ else _) = _
    have e := rT3_s (σ := σ) (S := S) hk18 (by omega)
    by_cases s : S k
    · rw [if_neg (fun z => pif01.mp z s)]
      rw [pif_t s] at e
      rw [e]; exact this
    · rw [if_pos (pif01.mpr s)]
      rw [pif_f s] at e
      rw [e]; exact this
theorem rr_134 {dsk : AR} (hF : 40 < F) (hI : Inv n σ) : ∀ (r b m : Nat), b + r = 36 → r < m → s_R_reclaim_134 F m (nI (cI σ S 18 + cBw σ S b)) (nI b) y dr (zz (rM (rMk σ S 18 b) (rT1 σ S 18) (σ 2))) dsk fr rl od ct (bz S) i2 i3 mv = s_R_reclaim_191 F F (nI (cI σ S 18 + cBw σ S 36)) (nI 0) y dr (zz (rM (rMk σ S 18 36) (rT1 σ S 18) (σ 2))) dsk fr rl od ct (bz S) i2 i3 mv := by
  have hT := Inv_VT1 hI
  have hK := KT_1 (σ := σ) (S := S) hT (k := 18)
  intro r
  induction r with
  | zero =>
    intro b m hb hm
    obtain ⟨m, rfl⟩ : ∃ q, m = q + 1 := ⟨m - 1, by omega⟩
    unfold s_R_reclaim_134
    rw [if_pos (nI_le (by omega) (by omega)), show b = 36 by omega]
  | succ r ih =>
    intro b m hb hm
    obtain ⟨m, rfl⟩ : ∃ q, m = q + 1 := ⟨m - 1, by omega⟩
    have this := ih (b + 1) m (by omega) (by omega)
    unfold s_R_reclaim_134
    rw [if_neg (nI_ge (by omega) (by omega)), pk_rem (by omega) (by decide) (by decide)]
    by_cases h2 : 2 ≤ b % 12
    · have hD : isD b := ⟨by omega, h2⟩
      have pl := PF_le (T := σ 1) (S := S) (b := b)
      rw [if_neg (nI_ge (by omega) (by omega)), e_s_R_pointersTo_inMemory, bd_e (cf_pointersToR (by omega) (KT_VT hT hK) (Or.inl ⟨rfl, rfl⟩) (by omega)), KT_PF hK]
      by_cases p : PF (σ 1) S b = 0
      · rw [if_pos (by rw [p]; rfl), bd_e (cf_markOfBlock (by omega)), rd_bm hD, rMk_bm hD, bd_e (cf_markOfBlock (by omega)), ga_e _ rfl (by omega) (by decide), nI_clamp (by omega), zz_up, up_bm hD, rMk_bf hD p, nI_add, nI_add]
        rw [cB_f ⟨h2, p⟩, ← Nat.add_assoc] at this
        exact this
      · rw [if_neg (fun z => p ((nI0 (by omega)).mp z)), nI_add]
        rw [cB_t (fun z => p z.2), rMk_bt (fun z => p z.2)] at this
        exact this
    · rw [if_pos (nI_le (by omega) (by decide)), nI_add]
      rw [cB_t (fun z => h2 z.1), rMk_bt (fun z => h2 z.1)] at this
      exact this
def rXk (X Y : Nat → Nat) (k : Nat) : Nat → Nat := fun m => if m < k ∧ m / 30 % 12 < 2 then X m else Y m
theorem rr_191 {X Y : Nat → Nat} {x1 : Int32} {i1 : AR} : ∀ (r k m : Nat), k + r = 1080 → r < m → s_R_reclaim_191 F m x1 (nI k) y dr (zz X) (zz (rXk X Y k)) fr rl od ct i1 i2 i3 mv = some (x1, y, dr, zz X, zz (rXk X Y 1080), fr, rl, od, ct, i1, i2, i3, mv) := by
  intro r
  induction r with
  | zero =>
    intro k m hk hm
    obtain ⟨m, rfl⟩ : ∃ q, m = q + 1 := ⟨m - 1, by omega⟩
    unfold s_R_reclaim_191
    rw [if_pos (nI_le (by omega) (by omega)), show k = 1080 by omega]
  | succ r ih =>
    intro k m hk hm
    obtain ⟨m, rfl⟩ : ∃ q, m = q + 1 := ⟨m - 1, by omega⟩
    have this := ih (k + 1) m (by omega) (by omega)
    unfold s_R_reclaim_191 s_R_reclaim_229
    rw [if_neg (nI_ge (by omega) (by omega)), pk_div (a := k) (by omega) (by decide) (by decide), pk_rem (by omega) (by decide) (by decide), gr_e k rfl (by omega) (by decide), gr_e k rfl (by omega) (by decide), ga_e k rfl (by omega) (by decide), ga_e k rfl (by omega) (by decide), nI_clamp (by omega), nI_add]
    by_cases h2 : 2 ≤ k / 30 % 12
    · rw [if_pos (nI_le h2 (by omega)), show zz (rXk X Y k) k = nI (rXk X Y k k) from rfl, zz_up, up_id]
      have e : rXk X Y (k + 1) = rXk X Y k := by
        funext j; unfold rXk
        by_cases a : j < k ∧ j / 30 % 12 < 2
        · rw [if_pos a, if_pos (by omega)]
        · rw [if_neg a]
          by_cases b : j < k + 1 ∧ j / 30 % 12 < 2
          · exfalso
            have : j = k := by omega
            rw [this] at b; omega
          · rw [if_neg b]
      rw [e] at this; exact this
    · rw [if_neg (nI_ge (by omega) (by omega)), show zz X k = nI (X k) from rfl, zz_up]
      have e : up (rXk X Y k) k (X k) = rXk X Y (k + 1) := by
        funext j
        by_cases c : j = k
        · rw [c, up_s]; unfold rXk; rw [if_pos (by omega)]
        · rw [up_n c]; unfold rXk
          by_cases a : j < k ∧ j / 30 % 12 < 2
          · rw [if_pos a, if_pos (by omega)]
          · rw [if_neg a, if_neg (by omega)]
      rw [e]; exact this
theorem rX_rM {M T W D0 D1 D2 : Nat → Nat} : rXk (rM M T W) (rM D0 D1 D2) 1080 = rM (d3k M D0 36) (d4k T D1 36) D2 := by
  funext m
  unfold rXk
  by_cases h : m < 1080 ∧ m % 30 < sz (m / 30)
  · have hs := h.2
    unfold rM
    rw [if_pos h, if_pos h, if_pos h]
    by_cases h0 : m / 30 % 12 = 0
    · rw [sz_0 h0] at hs
      rw [if_pos ⟨h.1, by omega⟩, if_pos h0, if_pos h0]
      unfold d3k; rw [if_pos (by omega)]
    · by_cases h1 : m / 30 % 12 = 1
      · rw [if_pos ⟨h.1, by omega⟩, if_neg h0, if_pos h1, if_neg h0, if_pos h1]
        unfold d4k; rw [if_pos (by omega)]
      · rw [if_neg (c := m < 1080 ∧ m / 30 % 12 < 2) (by omega), if_neg h0, if_neg h1, if_neg h0, if_neg h1]
  · rw [rM_z h, rM_z h, rM_z h]; split <;> rfl
end RR
