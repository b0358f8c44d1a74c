-- tests of the tree
def isT (T W : Nat → Nat) (kk : Nat) (x : Int32) : Prop := ∃ i, i < 18 ∧ x = nI i ∧ Tr (Ed T W z1) 0 i ∧ kd T i = kk
theorem isT_nI {T W : Nat → Nat} {kk i : Nat} (hi : i < 18) : isT T W kk (nI i) ↔ Tr (Ed T W z1) 0 i ∧ kd T i = kk := by
  constructor
  · rintro ⟨j, hj, e, h1, h2⟩
    have : i = j := (nI_eq (by omega) (by omega)).mp e
    subst this; exact ⟨h1, h2⟩
  · rintro ⟨h1, h2⟩; exact ⟨i, hi, rfl, h1, h2⟩
theorem isT_out {T W : Nat → Nat} {kk : Nat} {x : Int32} (h : x < 0 ∨ nI 18 ≤ x) : ¬ isT T W kk x := by
  rintro ⟨i, hi, e, -, -⟩
  subst e
  rcases h with h | h
  · exact nI_pos (by omega) h
  · exact nI_ge hi (by omega) h
section TST
variable {F : Nat} {T W : Nat → Nat}
theorem cf_isInTree (q : Nat → Int32) (x : Int32) (hF : 18 < F) (hT : VT T) (hE : VE T W z1) : ∃ q', s_V_isInTree F (zz T) (zz W) (zz z1) x q = some (pif (∃ i, i < 18 ∧ x = nI i ∧ Tr (Ed T W z1) 0 i) (nI 1) (nI 0), q') := by
  unfold s_V_isInTree s_V_isInTree_29
  rcases pk_ix x (n := 18) (by decide) with h | h | ⟨i, hi, e⟩
  · exact ⟨q, by rw [if_pos h, pif_f]; rintro ⟨i, hi, e, -⟩; subst e; exact nI_pos (by omega) h⟩
  · refine ⟨q, ?_⟩
    have h0 : ¬ x < 0 := fun z => by
      have h1 := Int32.lt_iff_toInt_lt.mp z
      have h2 := Int32.le_iff_toInt_le.mp h
      rw [nI_toInt (by decide)] at h2
      rw [show (0 : Int32).toInt = 0 from rfl] at h1
      omega
    rw [if_neg h0, if_pos h, pif_f]
    rintro ⟨i, hi, e, -⟩; subst e; exact nI_ge hi (by omega) h
  · subst e
    obtain ⟨S, q', e, hS⟩ := cf_reach (F := F) (s0 := 0) q hF hT z1_le hE (by omega)
    refine ⟨q', ?_⟩
    rw [if_neg (nI_pos (by omega)), if_neg (nI_ge hi (by omega)), bd_e e]
    show bd (s_V_has S (nI i)) _ = _
    rw [bd_e (cf_has (by omega))]
    by_cases h : bt S i = true
    · rw [if_neg (fun z => if01.mp z h), pif_t ⟨i, hi, rfl, (hS i (by omega)).mp h⟩]
    · rw [if_pos (if01.mpr h), pif_f]
      rintro ⟨j, hj, e, t⟩
      have : i = j := (nI_eq (by omega) (by omega)).mp e
      subst this; exact h ((hS i (by omega)).mpr t)
theorem cf_isTree2 (q : Nat → Int32) (x : Int32) (hF : 18 < F) (hT : VT T) (hE : VE T W z1) : ∃ q', s_V_isTreeDirectory F (zz T) (zz W) (zz z1) x q = some (pif (isT T W 2 x) (nI 1) (nI 0), q') := by
  obtain ⟨q', e⟩ := cf_isInTree q x hF hT hE
  refine ⟨q', ?_⟩
  unfold s_V_isTreeDirectory s_V_isTreeDirectory_24
  rw [bd_e e]
  show (if pif _ (nI 1) (nI 0) = 0 then _ else _) = _
  by_cases h : ∃ i, i < 18 ∧ x = nI i ∧ Tr (Ed T W z1) 0 i
  · rw [if_neg (fun z => pif01.mp z h)]
    obtain ⟨i, hi, ex, t⟩ := h
    have hk := VT_k hT hi
    subst ex
    rw [bd_e (cf_kind hi)]
    by_cases h2 : kd T i = 2
    · rw [if_pos (by rw [h2]), pif_t ((isT_nI hi).mpr ⟨t, h2⟩)]
    · rw [if_neg (fun z => h2 ((nI_eq (by omega) (by decide)).mp z)), pif_f (fun z => h2 ((isT_nI hi).mp z).2)]
  · rw [if_pos (pif01.mpr h), pif_f]
    rintro ⟨i, hi, ex, t, -⟩; exact h ⟨i, hi, ex, t⟩
theorem cf_isTree1 (q : Nat → Int32) (x : Int32) (hF : 18 < F) (hT : VT T) (hE : VE T W z1) : ∃ q', s_V_isTreeFile F (zz T) (zz W) (zz z1) x q = some (pif (isT T W 1 x) (nI 1) (nI 0), q') := by
  obtain ⟨q', e⟩ := cf_isInTree q x hF hT hE
  refine ⟨q', ?_⟩
  unfold s_V_isTreeFile s_V_isTreeFile_24
  rw [bd_e e]
  show (if pif _ (nI 1) (nI 0) = 0 then _ else _) = _
  by_cases h : ∃ i, i < 18 ∧ x = nI i ∧ Tr (Ed T W z1) 0 i
  · rw [if_neg (fun z => pif01.mp z h)]
    obtain ⟨i, hi, ex, t⟩ := h
    have hk := VT_k hT hi
    subst ex
    rw [bd_e (cf_kind hi)]
    by_cases h2 : kd T i = 1
    · rw [if_pos (by rw [h2]), pif_t ((isT_nI hi).mpr ⟨t, h2⟩)]
    · rw [if_neg (fun z => h2 ((nI_eq (by omega) (by decide)).mp z)), pif_f (fun z => h2 ((isT_nI hi).mp z).2)]
  · rw [if_pos (pif01.mpr h), pif_f]
    rintro ⟨i, hi, ex, t, -⟩; exact h ⟨i, hi, ex, t⟩
theorem Ed_lt {K : Nat → Nat} (hE : VE T W K) : ∀ a b, a < 18 → Ed T W K a b → b < 18 := fun a b ha ⟨c, hc, h1, h2⟩ => by rw [← h2]; exact (hE a c ha hc).2 h1
theorem cf_treeM {A : Nat → Nat} {dsk fresh : Nat → Int32} (S : Nat → Prop) (hF : 18 < F) (hT : VT T) (hE : VE T W z1) : ∃ S' : Nat → Prop, s_R_tree_inMemory F (zz (rM A T W)) dsk fresh (nI 0) (bz S) = some (bz S') ∧ ∀ j, j < 18 → (S' j ↔ Tr (Ed T W z1) 0 j) :=
  cf_tree hF (fun i S hi => cf_spread_m (by omega) hT hE hi S) (Ed_lt hE)
theorem cf_treeD {A K : Nat → Nat} {mem : Nat → Int32} (S : Nat → Prop) (hF : 18 < F) (hT : VT T) (hK : ∀ b, b < 36 → K b ≤ 1) (hE : VE T W K) : ∃ S' : Nat → Prop, s_R_tree_inMemory F mem (zz (rM A T W)) (zz K) (nI 1) (bz S) = some (bz S') ∧ ∀ j, j < 18 → (S' j ↔ Tr (Ed T W K) 0 j) :=
  cf_tree hF (fun i S hi => cf_spread_d (by omega) hT hK hE hi S) (Ed_lt hE)
theorem cf_holds {A : Nat → Nat} {dsk fresh : Nat → Int32} {kk : Nat} (S : Nat → Prop) (x : Int32) (hF : 18 < F) (hT : VT T) (hE : VE T W z1) (hkk : kk < 3) : ∃ S' : Nat → Prop, s_R_holds F (zz (rM A T W)) dsk fresh x (nI kk) (bz S) = some (pif (isT T W kk x) (nI 1) (nI 0), bz S') := by
  unfold s_R_holds s_R_holds_48
  rcases pk_ix x (n := 18) (by decide) with h | h | ⟨i, hi, e⟩
  · exact ⟨S, by rw [if_pos h, pif_f (isT_out (Or.inl h))]⟩
  · refine ⟨S, ?_⟩
    have h2 := Int32.le_iff_toInt_le.mp h
    rw [nI_toInt (by decide)] at h2
    have h0 : ¬ x < 0 := fun z => by
      have h1 := Int32.lt_iff_toInt_lt.mp z
      rw [show (0 : Int32).toInt = 0 from rfl] at h1
      omega
    have h3 : ¬ x ≤ nI 17 := fun z => by
      have h1 := Int32.le_iff_toInt_le.mp z
      rw [nI_toInt (by decide)] at h1
      omega
    rw [if_neg h0, if_neg h3, pif_f (isT_out (Or.inr h))]
  · subst e
    have hk := VT_k hT hi
    obtain ⟨S', e, hS⟩ := cf_treeM (F := F) (A := A) (dsk := dsk) (fresh := fresh) S hF hT hE
    refine ⟨S', ?_⟩
    rw [if_neg (nI_pos (by omega)), if_pos (nI_le (by omega) (by omega)), bd_e e, gr_e i rfl hi (by decide)]
    show (if pif (S' i) (nI 1) (nI 0) = 0 then _ else _) = _
    by_cases h : S' i
    · rw [if_neg (fun z => pif01.mp z h), bd_e (cf_at hi (by omega)), rd_t hi (by omega), Nat.add_zero]
      by_cases h2 : kd T i = kk
      · rw [if_pos (by rw [← h2]), pif_t ((isT_nI hi).mpr ⟨(hS i hi).mp h, h2⟩)]
      · rw [if_neg (fun z => h2 ((nI_eq (show kd T i < 2 ^ 31 by omega) (by omega)).mp z)), pif_f (fun z => h2 ((isT_nI hi).mp z).2)]
    · rw [if_pos (pif01.mpr h), pif_f (fun z => h ((hS i hi).mpr ((isT_nI hi).mp z).1))]
end TST
-- counts of the reference over flags
section CNT
variable {F : Nat} {A T W K : Nat → Nat} {mem : Nat → Int32} {S : Nat → Prop}
theorem cf_pointersTo_16 {k6 : Int32 → Int32 → Int32 → Int32 → Option Int32} {dsk : Nat → Int32} {x1 : Int32} {d b : Nat} (hT : VT T) (hx : (x1 = nI 0 ∧ mem = zz (rM A T W)) ∨ (x1 = nI 1 ∧ dsk = zz (rM A T W))) (hd : d < 18) (hb : b < 2 ^ 31) : ∀ (r c n : Nat), c + r = 3 → r < n → s_R_pointersTo_onDisk_16 F mem dsk (bz S) k6 n x1 (nI b) (nI (cn (fun q => S (q / 3) ∧ pt T (q / 3) (q % 3) = b) (3 * d + c))) (nI d) (nI (2 + c)) = k6 x1 (nI b) (nI (cn (fun q => S (q / 3) ∧ pt T (q / 3) (q % 3) = b) (3 * (d + 1)))) (nI (d + 1)) := by
  intro r
  induction r with
  | zero =>
    intro c n hc hn
    obtain ⟨n, rfl⟩ : ∃ q, n = q + 1 := ⟨n - 1, by omega⟩
    unfold s_R_pointersTo_onDisk_16
    rw [if_pos (nI_le (by omega) (by omega)), nI_add, show 3 * (d + 1) = 3 * d + c by omega]
  | succ r ih =>
    intro c n hc hn
    obtain ⟨n, rfl⟩ : ∃ q, n = q + 1 := ⟨n - 1, by omega⟩
    have v1 := VT_p hT hd (k := c) (by omega)
    have e1 : (3 * d + c) / 3 = d := by omega
    have e2 : (3 * d + c) % 3 = c := by omega
    unfold s_R_pointersTo_onDisk_16 s_R_pointersTo_onDisk_60
    rw [if_neg (nI_ge (by omega) (by omega)), gr_e d rfl hd (by decide)]
    show (if pif (S d) (nI 1) (nI 0) = 0 then _ else _) = _
    by_cases h0 : S d
    · have := ih (c + 1) n (by omega) (by omega)
      have goal : (if nI (pt T d c) = nI b then s_R_pointersTo_onDisk_16 F mem dsk (bz S) k6 n x1 (nI b) (nI (cn (fun q => S (q / 3) ∧ pt T (q / 3) (q % 3) = b) (3 * d + c)) + nI 1) (nI d) (nI (2 + c) + nI 1) else s_R_pointersTo_onDisk_16 F mem dsk (bz S) k6 n x1 (nI b) (nI (cn (fun q => S (q / 3) ∧ pt T (q / 3) (q % 3) = b) (3 * d + c))) (nI d) (nI (2 + c) + nI 1)) = k6 x1 (nI b) (nI (cn (fun q => S (q / 3) ∧ pt T (q / 3) (q % 3) = b) (3 * (d + 1)))) (nI (d + 1)) := by
        rw [nI_add, nI_add]
        by_cases h1 : pt T d c = b
        · rw [if_pos (by rw [h1])]
          rw [show 3 * d + (c + 1) = 3 * d + c + 1 by omega, cn_t (by rw [e1, e2]; exact ⟨h0, h1⟩)] at this
          exact this
        · rw [if_neg (fun q => h1 ((nI_eq (by omega) hb).mp q))]
          rw [show 3 * d + (c + 1) = 3 * d + c + 1 by omega, cn_f (by rw [e1, e2]; exact fun q => h1 q.2)] at this
          exact this
      rw [if_neg (fun q => pif01.mp q h0), bd_e (cf_at hd (by omega)), bd_e (cf_at hd (by omega))]
      rcases hx with ⟨rfl, rfl⟩ | ⟨rfl, rfl⟩
      · rw [if_pos (show nI 0 = 0 from rfl), rd_t hd (by omega), show 5 * d + (2 + c) = 5 * d + 2 + c by omega]; exact goal
      · rw [if_neg (show ¬ nI 1 = 0 by decide), rd_t hd (by omega), show 5 * d + (2 + c) = 5 * d + 2 + c by omega]; exact goal
    · rw [if_pos (pif01.mpr h0), nI_add, cn_skip (a := 3 * d + c) (b := 3 * (d + 1)) (by omega) (fun j h1 h2 q => h0 (by rw [← show j / 3 = d by omega]; exact q.1))]
theorem cf_pointersToR {dsk : Nat → Int32} {x1 : Int32} {b : Nat} (hF : 18 < F) (hT : VT T) (hx : (x1 = nI 0 ∧ mem = zz (rM A T W)) ∨ (x1 = nI 1 ∧ dsk = zz (rM A T W))) (hb : b < 2 ^ 31) : s_R_pointersTo_onDisk F mem dsk (bz S) x1 (nI b) = some (nI (PF T S b)) := by
  have key : ∀ (r d n : Nat), d + r = 18 → r < n → s_R_pointersTo_onDisk_6 F mem dsk (bz S) n x1 (nI b) (nI (cn (fun q => S (q / 3) ∧ pt T (q / 3) (q % 3) = b) (3 * d))) (nI d) = some (nI (PF T S b)) := by
    intro r
    induction r with
    | zero =>
      intro d n hd hn
      obtain ⟨n, rfl⟩ : ∃ q, n = q + 1 := ⟨n - 1, by omega⟩
      unfold s_R_pointersTo_onDisk_6
      rw [if_pos (nI_le (by omega) (by omega)), show d = 18 by omega]; rfl
    | succ r ih =>
      intro d n hd hn
      obtain ⟨n, rfl⟩ : ∃ q, n = q + 1 := ⟨n - 1, by omega⟩
      have := ih (d + 1) n (by omega) (by omega)
      unfold s_R_pointersTo_onDisk_6
      rw [if_neg (nI_ge (by omega) (by omega)), ← this]
      exact cf_pointersTo_16 (k6 := s_R_pointersTo_onDisk_6 F mem dsk (bz S) n) hT hx (by omega) hb 3 0 F rfl (by omega)
  exact key 18 0 F rfl hF
theorem cf_entriesFor_78 {k6 : Int32 → Int32 → Int32 → Int32 → Option Int32} {dsk fresh : Nat → Int32} {x1 : Int32} {d i : Nat} (hT : VT T) (hK : ∀ b, b < 36 → K b ≤ 1) (hE : VE T W K) (hx : (x1 = nI 0 ∧ mem = zz (rM A T W) ∧ K = z1) ∨ (x1 = nI 1 ∧ dsk = zz (rM A T W) ∧ fresh = zz K)) (hd : d < 18) (hi : i < 2 ^ 31) : ∀ (r c n : Nat), c + r = 8 → r < n → s_R_entriesFor_onDisk_78 F mem dsk fresh (bz S) k6 n x1 (nI i) (nI (cn (fun q => S (q / 8) ∧ en T W K (q / 8) (q % 8) ≠ 0 ∧ en T W K (q / 8) (q % 8) % 32 = i) (8 * d + c))) (nI d) (nI (kd T d)) (nI (pt T d 0)) (nI c) = k6 x1 (nI i) (nI (cn (fun q => S (q / 8) ∧ en T W K (q / 8) (q % 8) ≠ 0 ∧ en T W K (q / 8) (q % 8) % 32 = i) (8 * (d + 1)))) (nI (d + 1)) := by
  have hk := VT_k hT hd
  have hp := VT_p hT hd (k := 0) (by omega)
  intro r
  induction r with
  | zero =>
    intro c n hc hn
    obtain ⟨n, rfl⟩ : ∃ q, n = q + 1 := ⟨n - 1, by omega⟩
    unfold s_R_entriesFor_onDisk_78
    rw [if_pos (nI_le (by omega) (by omega)), nI_add, show 8 * (d + 1) = 8 * d + c by omega]
  | succ r ih =>
    intro c n hc hn
    obtain ⟨n, rfl⟩ : ∃ q, n = q + 1 := ⟨n - 1, by omega⟩
    obtain ⟨v1, v2⟩ := hE d c hd (by omega)
    have e1 : (8 * d + c) / 8 = d := by omega
    have e2 : (8 * d + c) % 8 = c := by omega
    unfold s_R_entriesFor_onDisk_78 s_R_entriesFor_onDisk_131 s_R_entriesFor_onDisk_154
    rw [if_neg (nI_ge (by omega) (by omega)), gr_e d rfl hd (by decide)]
    show (if pif (S d) (nI 1) (nI 0) = 0 then _ else _) = _
    by_cases h0 : S d
    · rw [if_neg (fun q => pif01.mp q h0)]
      by_cases h2 : kd T d = 2
      · rw [if_pos (by rw [h2])]
        by_cases hp0 : pt T d 0 = 0
        · rw [if_pos (by rw [hp0]; rfl), nI_add, cn_skip (a := 8 * d + c) (b := 8 * (d + 1)) (by omega) (fun j g1 g2 q => q.2.1 (by rw [show j / 8 = d by omega]; unfold en; rw [if_neg (fun z => z.2.1 hp0)]))]
        · have hD := isD_p hT hd (k := 0) (by omega) hp0
          rw [if_neg (fun q => hp0 ((nI0 (by omega)).mp q))]
          have := ih (c + 1) n (by omega) (by omega)
          have goal : (if nI (en T W K d c) = 0 then s_R_entriesFor_onDisk_78 F mem dsk fresh (bz S) k6 n x1 (nI i) (nI (cn (fun q => S (q / 8) ∧ en T W K (q / 8) (q % 8) ≠ 0 ∧ en T W K (q / 8) (q % 8) % 32 = i) (8 * d + c))) (nI d) (nI (kd T d)) (nI (pt T d 0)) (nI c + nI 1) else if (nI (en T W K d c) - nI (en T W K d c) / nI 32 * nI 32) = nI i then s_R_entriesFor_onDisk_78 F mem dsk fresh (bz S) k6 n x1 (nI i) (nI (cn (fun q => S (q / 8) ∧ en T W K (q / 8) (q % 8) ≠ 0 ∧ en T W K (q / 8) (q % 8) % 32 = i) (8 * d + c)) + nI 1) (nI d) (nI (kd T d)) (nI (pt T d 0)) (nI c + nI 1) else s_R_entriesFor_onDisk_78 F mem dsk fresh (bz S) k6 n x1 (nI i) (nI (cn (fun q => S (q / 8) ∧ en T W K (q / 8) (q % 8) ≠ 0 ∧ en T W K (q / 8) (q % 8) % 32 = i) (8 * d + c))) (nI d) (nI (kd T d)) (nI (pt T d 0)) (nI c + nI 1)) = k6 x1 (nI i) (nI (cn (fun q => S (q / 8) ∧ en T W K (q / 8) (q % 8) ≠ 0 ∧ en T W K (q / 8) (q % 8) % 32 = i) (8 * (d + 1)))) (nI (d + 1)) := by
            rw [pk_rem v1 (by decide) (by decide), nI_add, nI_add]
            by_cases g0 : en T W K d c = 0
            · rw [if_pos (by rw [g0]; rfl)]
              rw [show 8 * d + (c + 1) = 8 * d + c + 1 by omega, cn_f (by rw [e1, e2]; exact fun q => q.2.1 g0)] at this
              exact this
            · rw [if_neg (fun q => g0 ((nI0 v1).mp q))]
              by_cases g1 : en T W K d c % 32 = i
              · rw [if_pos (by rw [g1])]
                rw [show 8 * d + (c + 1) = 8 * d + c + 1 by omega, cn_t (by rw [e1, e2]; exact ⟨h0, g0, g1⟩)] at this
                exact this
              · rw [if_neg (fun q => g1 ((nI_eq (by omega) hi).mp q))]
                rw [show 8 * d + (c + 1) = 8 * d + c + 1 by omega, cn_f (by rw [e1, e2]; exact fun q => g1 q.2.2)] at this
                exact this
          rcases hx with ⟨rfl, rfl, rfl⟩ | ⟨rfl, rfl, rfl⟩
          · rw [if_pos (show nI 0 = 0 from rfl), rd_w hD (by omega), ← en_m (W := W) (c := c) h2 hp0]; exact goal
          · rw [if_neg (show ¬ nI 1 = 0 by decide), bd_e (cf_seen' hD (by omega) (hK _ hD.1)), ← en_e (by omega) h2 hp0]; exact goal
      · rw [if_neg (fun q => h2 ((nI_eq (by omega) (by decide)).mp q)), nI_add, cn_skip (a := 8 * d + c) (b := 8 * (d + 1)) (by omega) (fun j g1 g2 q => q.2.1 (by rw [show j / 8 = d by omega]; unfold en; rw [if_neg (fun z => h2 z.1)]))]
    · rw [if_pos (pif01.mpr h0), nI_add, cn_skip (a := 8 * d + c) (b := 8 * (d + 1)) (by omega) (fun j h1 h2 q => h0 (by rw [← show j / 8 = d by omega]; exact q.1))]
theorem cf_entriesForR {dsk fresh : Nat → Int32} {x1 : Int32} {i : Nat} (hF : 18 < F) (hT : VT T) (hK : ∀ b, b < 36 → K b ≤ 1) (hE : VE T W K) (hx : (x1 = nI 0 ∧ mem = zz (rM A T W) ∧ K = z1) ∨ (x1 = nI 1 ∧ dsk = zz (rM A T W) ∧ fresh = zz K)) (hi : i < 2 ^ 31) : s_R_entriesFor_onDisk F mem dsk fresh (bz S) x1 (nI i) = some (nI (EF T W K S i)) := by
  have key : ∀ (r d n : Nat), d + r = 18 → r < n → s_R_entriesFor_onDisk_6 F mem dsk fresh (bz S) n x1 (nI i) (nI (cn (fun q => S (q / 8) ∧ en T W K (q / 8) (q % 8) ≠ 0 ∧ en T W K (q / 8) (q % 8) % 32 = i) (8 * d))) (nI d) = some (nI (EF T W K S i)) := by
    intro r
    induction r with
    | zero =>
      intro d n hd hn
      obtain ⟨n, rfl⟩ : ∃ q, n = q + 1 := ⟨n - 1, by omega⟩
      unfold s_R_entriesFor_onDisk_6
      rw [if_pos (nI_le (by omega) (by omega)), show d = 18 by omega]; rfl
    | succ r ih =>
      intro d n hd hn
      obtain ⟨n, rfl⟩ : ∃ q, n = q + 1 := ⟨n - 1, by omega⟩
      have := ih (d + 1) n (by omega) (by omega)
      have h78 := cf_entriesFor_78 (F := F) (S := S) (k6 := s_R_entriesFor_onDisk_6 F mem dsk fresh (bz S) n) hT hK hE hx (d := d) (by omega) hi 8 0 F rfl (by omega)
      unfold s_R_entriesFor_onDisk_6 s_R_entriesFor_onDisk_42 s_R_entriesFor_onDisk_73
      rw [if_neg (nI_ge (by omega) (by omega)), ← this, ← h78]
      have hd' : d < 18 := by omega
      rcases hx with ⟨rfl, rfl, rfl⟩ | ⟨rfl, rfl, rfl⟩
      · rw [if_pos (show nI 0 = 0 from rfl), bd_e (cf_at hd' (by omega)), rd_t hd' (by omega), if_pos (show nI 0 = 0 from rfl), bd_e (cf_at hd' (by omega)), rd_t hd' (by omega)]; rfl
      · rw [if_neg (show ¬ nI 1 = 0 by decide), bd_e (cf_at hd' (by omega)), rd_t hd' (by omega), if_neg (show ¬ nI 1 = 0 by decide), bd_e (cf_at hd' (by omega)), rd_t hd' (by omega)]; rfl
  exact key 18 0 F rfl hF
end CNT
