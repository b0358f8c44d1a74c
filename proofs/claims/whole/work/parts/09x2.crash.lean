-- crash
noncomputable def crS (σ : St) : St := fun c m => match c with
  | 0 => if m < 48 then σ 3 m else σ 0 m
  | 1 => if m < 90 then σ 4 m else σ 1 m
  | 2 => pif (isD (m / 8)) (σ 5 m) (σ 2 m)
  | 6 => if m < 36 then 0 else σ 6 m
  | 7 => if m < 36 then 0 else σ 7 m
  | 8 => if m < 36 then 0 else σ 8 m
  | 9 => if m < 18 then 0 else σ 9 m
  | c + 10 => σ (c + 10) m
  | 3 => σ 3 m
  | 4 => σ 4 m
  | 5 => σ 5 m
section CR
variable {n F : Nat} {σ : St}
theorem cr_kd {i : Nat} (hi : i < 18) : kd (crS σ 1) i = kd (σ 4) i := if_pos (by omega)
theorem cr_lk {i : Nat} (hi : i < 18) : lk (crS σ 1) i = lk (σ 4) i := if_pos (by omega)
theorem cr_pt {i k : Nat} (hi : i < 18) (hk : k < 3) : pt (crS σ 1) i k = pt (σ 4) i k := if_pos (by omega)
theorem cr_im {i : Nat} (hi : i < 18) : im (crS σ 0) i = im (σ 3) i := if_pos (by omega)
theorem cr_bm {b : Nat} (hb : b < 36) : bm (crS σ 0) b = bm (σ 3) b := if_pos (by omega)
theorem cr_DB (h : Inw n σ) {b : Nat} (hb : b < 36) (hD : DB (crS σ) b) : isD b ∧ σ 6 b = 0 ∧ DB σ b := by
  obtain ⟨b0, e | ⟨i, hi, k2, e⟩⟩ := hD
  · rw [show crS σ 8 b = 0 from if_pos hb] at e; omega
  · rw [cr_kd hi] at k2
    rw [cr_pt hi (by omega)] at e
    have hp : pt (σ 4) i 0 ≠ 0 := by rw [e]; exact b0
    have := (Inw_V8 h i 0 hi (by omega) hp).2.2.1
    rw [e] at this
    have hd := DBd h hi k2 hp
    rw [e] at hd
    rcases (h.1.2 i hi).2.1 0 (by omega) with z | z
    · exact absurd z hp
    · rw [e] at z; exact ⟨z, this, hd⟩
theorem cr_sn {q : Nat} (hq : q < 288) : sn (crS σ) q = σ 5 q := by
  unfold sn
  rw [if_pos (show crS σ 6 (q / 8) = 0 from if_pos (by omega))]; rfl
theorem cr_w (h : Inw n σ) {q : Nat} (hq : q < 288) (hD : DB (crS σ) (q / 8)) : crS σ 2 q = sn σ q ∧ sn (crS σ) q = sn σ q ∧ DB σ (q / 8) := by
  obtain ⟨a, b, c⟩ := cr_DB h (by omega) hD
  have e : sn σ q = σ 5 q := by unfold sn; rw [if_pos b]
  refine ⟨?_, by rw [cr_sn hq, e], c⟩
  rw [e]; exact pif_t a
theorem cr_yb {q : Nat} : ¬ yb (crS σ) q := by
  rintro ⟨hq, z⟩
  rw [show crS σ 7 (q / 8) = 0 from if_pos (by omega), Nat.zero_testBit] at z
  exact absurd z (by decide)
theorem cr_Inv (hI : Inv n σ) : Inv n (crS σ) := by
  obtain ⟨hn, h, hs⟩ := hI
  have h8 := Inw_V8 h
  have h12 := Inw_V12 h
  have h16 := Inw_V16 h
  have h5 := Inw_V5 h
  have hL := h.2.1
  have hX := h.1.2
  have hlt : ∀ i k, i < 18 → k < 3 → pt (σ 4) i k < 36 := fun i k hi hk => by
    rcases (hX i hi).2.1 k hk with z | z
    · omega
    · exact z.1
  have hUd : ∀ i, Un (crS σ) i ≤ Ud σ i := fun i => cn_mono (fun q hq ⟨a, b⟩ => by
    obtain ⟨e1, e2, e3⟩ := cr_w h hq a
    refine ⟨e3, Or.inl ?_⟩
    rcases b with b | b
    · exact ⟨by rw [← e1]; exact b.1, by rw [← e1]; exact b.2⟩
    · exact ⟨by rw [← e2]; exact b.1, by rw [← e2]; exact b.2⟩)
  have hX' : VX (crS σ 1) := fun i hi => by
    obtain ⟨a, b, c, d⟩ := hX i hi
    rw [cr_kd hi, cr_lk hi]
    refine ⟨a, fun k hk => by rw [cr_pt hi hk]; exact b k hk, fun z => ⟨(c z).1, fun k hk => by rw [cr_pt hi hk]; exact (c z).2 k hk⟩, fun z => by rw [cr_pt hi (by omega), cr_pt hi (by omega)]; exact d z⟩
  have hL' : VL (crS σ 1) := fun i a b c => by rw [cr_lk b]; rw [cr_kd b] at c; exact hL i a b c
  refine ⟨hn, ⟨⟨hX', hX⟩, hL, ⟨?_, h.2.2.1.2⟩, ⟨?_, h.2.2.2.1.2⟩, ⟨?_, h.2.2.2.2.1.2⟩, ?_, ?_, ?_, ?_, ?_, ?_, ?_, ?_, ?_, ?_, ?_, ?_, ?_, ?_, ?_⟩, hL', ?_, ?_, ?_⟩
  · intro i j k l hi hj hk hl a b
    rw [cr_pt hi hk] at a b
    rw [cr_pt hj hl] at b
    exact h.2.2.1.2 i j k l hi hj hk hl a b
  · have := h.2.2.2.1.2
    exact ⟨by rw [cr_kd (by omega)]; exact this.1, by rw [cr_pt (by omega) (by omega)]; exact this.2⟩
  · intro i hi; rw [cr_lk hi]; exact h.2.2.2.2.1.2 i hi
  · refine ⟨fun m hm => ⟨?_, (h5.1 m hm).2⟩, fun b hb => ⟨?_, ?_, ?_⟩, ⟨h5.2.2.1.1, fun b hb _ => if_pos hb⟩, fun q hq => ⟨?_, (h5.2.2.2 q hq).2⟩⟩
    · rw [show crS σ 0 m = σ 3 m from if_pos hm]; exact (h5.1 m hm).2
    · rw [show crS σ 6 b = 0 from if_pos hb]; omega
    · rw [show crS σ 7 b = 0 from if_pos hb]; omega
    · rw [show crS σ 8 b = 0 from if_pos hb]; omega
    · show pif (isD (q / 8)) (σ 5 q) (σ 2 q) < _
      by_cases e : isD (q / 8)
      · rw [pif_t e]; exact (h5.2.2.2 q hq).2
      · rw [pif_f e]; exact (h5.2.2.2 q hq).1
  · intro i k hi hk z
    rw [cr_pt hi hk] at z ⊢
    exact ⟨by rw [cr_bm (hlt i k hi hk)]; exact (h8 i k hi hk z).2.1, if_pos (hlt i k hi hk)⟩
  · intro b hb z; exact absurd (if_pos hb) z
  · intro i k hi hk z
    have z' : pt (σ 4) i k ≠ 0 := z
    have := h8 i k hi hk z'
    refine ⟨?_, this.2.1, if_pos (hlt i k hi hk), Or.inl (cr_pt hi hk)⟩
    show bm (crS σ 0) (pt (σ 4) i k) = 1
    rw [cr_bm (hlt i k hi hk)]; exact this.2.1
  · intro i hi _ _; rw [cr_kd hi]; rfl
  · intro q hq hD z
    obtain ⟨e1, e2, e3⟩ := cr_w h hq hD
    rw [e1] at z ⊢
    obtain ⟨a, -, -, b, c, d⟩ := h12 q hq e3 z
    have i18 := a.2.2.2
    rw [cr_kd i18, cr_im i18, cr_pt i18 (by omega)]
    exact ⟨a, b, c, d, fun _ => b⟩
  · intro q hq hD z
    obtain ⟨e1, e2, e3⟩ := cr_w h hq hD
    rw [e2] at z ⊢
    obtain ⟨a, -, -, b, c, d⟩ := h12 q hq e3 z
    have i18 := a.2.2.2
    rw [cr_kd i18, cr_im i18]
    exact ⟨a, b, c, b, c, d⟩
  · intro q hq hD _ _
    obtain ⟨e1, e2, e3⟩ := cr_w h hq hD
    rw [e1, e2]
  · intro q hq z
    rw [show crS σ 8 (q / 8) = 0 from if_pos (by omega)] at z; omega
  · intro i a b c
    rw [cr_kd b] at c
    rw [cr_lk b]
    exact Nat.le_trans (hUd i) (h16 i a b c)
  · intro i a b c
    refine Nat.le_trans ?_ (h16 i a b c)
    refine Nat.le_trans (cn_mono (fun q hq ⟨x, y⟩ => ⟨x, ?_⟩)) (hUd i)
    exact y.elim Or.inr (fun z => Or.inl z.1)
  · intro q z; exact absurd z cr_yb
  · intro i hi z; rw [show crS σ 9 i = 0 from if_pos hi] at z; omega
  · intro i hi a b
    rw [cr_kd hi] at a; exact absurd a b
  · intro i a b c d e f
    rw [cr_kd b] at c
    rw [cr_lk b]
    have : Un (crS σ) i = 0 := cn_zero.mpr (fun q hq ⟨x, y⟩ => by
      obtain ⟨e1, e2, e3⟩ := cr_w h hq x
      refine e q hq x ?_
      rcases y with y | y
      · exact y
      · exact ⟨by rw [e1, ← e2]; exact y.1, by rw [e1, ← e2]; exact y.2⟩)
    rw [this]; exact hL i a b (by omega)
  · intro b hb z; exact absurd (if_pos hb) z
  · intro i hi z; rw [show crS σ 9 i = 0 from if_pos hi] at z; omega
  · intro i hi; left; exact if_pos hi
def c0 (A B : Nat → Nat) (b : Nat) : Nat → Nat := fun m => if m < 48 ∧ m / 16 * 12 < b then B m else A m
def c1 (A B : Nat → Nat) (b : Nat) : Nat → Nat := fun m => if m < 90 ∧ m / 30 * 12 + 1 < b then B m else A m
noncomputable def c2 (A B : Nat → Nat) (b : Nat) : Nat → Nat := fun m => pif (isD (m / 8) ∧ m / 8 < b) (B m) (A m)
def cz (A : Nat → Nat) (b : Nat) : Nat → Nat := fun m => if m < b then 0 else A m
theorem cz_s {A : Nat → Nat} {b : Nat} : up (cz A b) b 0 = cz A (b + 1) := by
  funext m
  unfold up cz
  by_cases e : m = b
  · rw [if_pos e, if_pos (by omega)]
  · rw [if_neg e]
    by_cases e' : m < b
    · rw [if_pos e', if_pos (by omega)]
    · rw [if_neg e', if_neg (by omega)]
theorem c0_s {A B : Nat → Nat} {b : Nat} (hb : b < 36) (h : b % 12 = 0) : cp (c0 A B b) B (b / 12 * 16) 16 = c0 A B (b + 1) := by
  funext m
  unfold cp c0
  by_cases e : b / 12 * 16 ≤ m ∧ m < b / 12 * 16 + 16
  · rw [if_pos e, if_pos (by omega)]
  · rw [if_neg e]
    by_cases e' : m < 48 ∧ m / 16 * 12 < b
    · rw [if_pos e', if_pos (by omega)]
    · rw [if_neg e', if_neg (by omega)]
theorem c0_n {A B : Nat → Nat} {b : Nat} (h : b % 12 ≠ 0) : c0 A B b = c0 A B (b + 1) := by
  funext m
  unfold c0
  by_cases e' : m < 48 ∧ m / 16 * 12 < b
  · rw [if_pos e', if_pos (by omega)]
  · rw [if_neg e', if_neg (by omega)]
theorem c1_s {A B : Nat → Nat} {b : Nat} (hb : b < 36) (h : b % 12 = 1) : cp (c1 A B b) B (b / 12 * 30) 30 = c1 A B (b + 1) := by
  funext m
  unfold cp c1
  by_cases e : b / 12 * 30 ≤ m ∧ m < b / 12 * 30 + 30
  · rw [if_pos e, if_pos (by omega)]
  · rw [if_neg e]
    by_cases e' : m < 90 ∧ m / 30 * 12 + 1 < b
    · rw [if_pos e', if_pos (by omega)]
    · rw [if_neg e', if_neg (by omega)]
theorem c1_n {A B : Nat → Nat} {b : Nat} (h : b % 12 ≠ 1) : c1 A B b = c1 A B (b + 1) := by
  funext m
  unfold c1
  by_cases e' : m < 90 ∧ m / 30 * 12 + 1 < b
  · rw [if_pos e', if_pos (by omega)]
  · rw [if_neg e', if_neg (by omega)]
theorem c2_s {A B : Nat → Nat} {b : Nat} (h : isD b) : cp (c2 A B b) B (8 * b) 8 = c2 A B (b + 1) := by
  funext m
  unfold cp c2
  by_cases e : 8 * b ≤ m ∧ m < 8 * b + 8
  · rw [if_pos e, pif_t]
    rw [show m / 8 = b by omega]; exact ⟨h, by omega⟩
  · rw [if_neg e]
    exact pif_congr ⟨fun ⟨x, y⟩ => ⟨x, by omega⟩, fun ⟨x, y⟩ => ⟨x, by omega⟩⟩
theorem c2_n {A B : Nat → Nat} {b : Nat} (h : b % 12 < 2) : c2 A B b = c2 A B (b + 1) := by
  funext m
  unfold c2
  refine pif_congr ⟨fun ⟨x, y⟩ => ⟨x, by omega⟩, fun ⟨x, y⟩ => ⟨x, ?_⟩⟩
  refine Classical.byContradiction fun z => ?_
  rw [show m / 8 = b by omega] at x
  have := x.2; omega
theorem cf_crash_60 {dm dt dw mm mt mw db y dr : Nat → Int32} {rn : Int32} {L : Nat → Nat} : ∀ (r i n : Nat), i + r = 18 → r < n → s_V_crash_60 F dm dt dw rn n (nI i) mm mt mw db y dr (zz (cz L i)) = some (nI 1, mm, mt, mw, db, y, dr, zz (cz L 18)) := by
  intro r
  induction r with
  | zero =>
    intro i n h hn
    obtain ⟨n, rfl⟩ : ∃ n', n = n' + 1 := ⟨n - 1, by omega⟩
    have : i = 18 := by omega
    subst this
    unfold s_V_crash_60
    rw [if_pos (nI_le (Nat.le_refl _) (by omega))]
  | succ r ih =>
    intro i n h hn
    obtain ⟨n, rfl⟩ : ∃ n', n = n' + 1 := ⟨n - 1, by omega⟩
    unfold s_V_crash_60
    rw [if_neg (nI_ge (by omega) (by omega)), ga_e i rfl (by omega) (by decide), nI_clamp (by omega), zz_up, cz_s, nI_add]
    exact ih (i + 1) n (by omega) (by omega)
theorem cf_crash_11 {M T W M1 T1 W1 B Y D L : Nat → Nat} {rn : Int32} (hF : 30 < F) : ∀ (r b n : Nat), b + r = 36 → r < n → s_V_crash_11 F (zz M1) (zz T1) (zz W1) rn n (nI b) (zz (c0 M M1 b)) (zz (c1 T T1 b)) (zz (c2 W W1 b)) (zz (cz B b)) (zz (cz Y b)) (zz (cz D b)) (zz L) = some (nI 1, zz (c0 M M1 36), zz (c1 T T1 36), zz (c2 W W1 36), zz (cz B 36), zz (cz Y 36), zz (cz D 36), zz (cz L 18)) := by
  intro r
  induction r with
  | zero =>
    intro b n h hn
    obtain ⟨n, rfl⟩ : ∃ n', n = n' + 1 := ⟨n - 1, by omega⟩
    have : b = 36 := by omega
    subst this
    unfold s_V_crash_11
    rw [if_pos (nI_le (Nat.le_refl _) (by omega))]
    have := cf_crash_60 (F := F) (dm := zz M1) (dt := zz T1) (dw := zz W1) (mm := zz (c0 M M1 36)) (mt := zz (c1 T T1 36)) (mw := zz (c2 W W1 36)) (db := zz (cz B 36)) (y := zz (cz Y 36)) (dr := zz (cz D 36)) (rn := rn) (L := L) 18 0 F rfl (by omega)
    rw [show cz L 0 = L from funext fun m => if_neg (by omega)] at this
    exact this
  | succ r ih =>
    intro b n h hn
    obtain ⟨n, rfl⟩ : ∃ n', n = n' + 1 := ⟨n - 1, by omega⟩
    have hb : b < 36 := by omega
    have e : s_S_copyBlock F (zz M1) (zz T1) (zz W1) (nI b) (zz (c0 M M1 b)) (zz (c1 T T1 b)) (zz (c2 W W1 b)) = some (zz (c0 M M1 (b + 1)), zz (c1 T T1 (b + 1)), zz (c2 W W1 (b + 1))) := by
      by_cases h0 : b % 12 = 0
      · rw [cf_copyBlock_0 hF hb h0, c0_s hb h0, c1_n (by omega), c2_n (by omega)]
      · by_cases h1 : b % 12 = 1
        · rw [cf_copyBlock_1 hF hb h1, c0_n h0, c1_s hb h1, c2_n (by omega)]
        · have hD : isD b := ⟨hb, by omega⟩
          rw [cf_copyBlock_2 hF hD, c0_n h0, c1_n h1, c2_s hD]
    unfold s_V_crash_11
    rw [if_neg (nI_ge (by omega) (by omega)), bd_e e]
    show bd (s_S_setBlank (nI b) (nI 0) (zz (cz B b))) _ = _
    rw [bd_e (cf_setBlank hb (by omega)), ga_e b rfl (by omega) (by decide), ga_e b rfl (by omega) (by decide), nI_clamp (by omega), zz_up, zz_up, cz_s, cz_s, cz_s, nI_add]
    exact ih (b + 1) n (by omega) (by omega)
theorem bzn_s {S : Nat → Prop} {i : Nat} : upd (bz (fun j => S j ∧ i ≤ j)) i (nI 0) = bz (fun j => S j ∧ i + 1 ≤ j) := by
  rw [bz_0]; exact bz_congr (fun j => ⟨fun ⟨⟨a, b⟩, c⟩ => ⟨a, by omega⟩, fun ⟨a, b⟩ => ⟨⟨a, by omega⟩, by omega⟩⟩)
theorem bzn_0 {S : Nat → Prop} : bz (fun j => S j ∧ 0 ≤ j) = bz S := bz_congr (fun j => ⟨fun z => z.1, fun z => ⟨z, Nat.zero_le _⟩⟩)
theorem cz_0 {A : Nat → Nat} : cz A 0 = A := funext fun m => if_neg (by omega)
theorem cf_crashR_88 {dsk y dr mem fr : Nat → Int32} {mv : Int32} {L : Nat → Prop} {O : Nat → Nat} : ∀ (r i n : Nat), i + r = 18 → r < n → s_R_crash_88 F dsk mv n (nI i) y dr mem fr (bz (fun j => L j ∧ i ≤ j)) (zz (cz O i)) = some (nI 1, y, dr, mem, fr, bz (fun j => L j ∧ 18 ≤ j), zz (cz O 18)) := by
  intro r
  induction r with
  | zero =>
    intro i n h hn
    obtain ⟨n, rfl⟩ : ∃ n', n = n' + 1 := ⟨n - 1, by omega⟩
    have : i = 18 := by omega
    subst this
    unfold s_R_crash_88
    rw [if_pos (nI_le (Nat.le_refl _) (by omega))]
  | succ r ih =>
    intro i n h hn
    obtain ⟨n, rfl⟩ : ∃ n', n = n' + 1 := ⟨n - 1, by omega⟩
    unfold s_R_crash_88
    rw [if_neg (nI_ge (by omega) (by omega)), ga_e i rfl (by omega) (by decide), ga_e i rfl (by omega) (by decide), nI_clamp (by omega), nar0, bzn_s, zz_up, cz_s, nI_add]
    exact ih (i + 1) n (by omega) (by omega)
theorem cf_crashR_66 {dsk dr mem fr : Nat → Int32} {mv : Int32} {L Y : Nat → Prop} {O : Nat → Nat} (hF : 18 < F) : ∀ (r i n : Nat), i + r = 288 → r < n → s_R_crash_66 F dsk mv n (nI i) (bz (fun j => Y j ∧ i ≤ j)) dr mem fr (bz L) (zz O) = some (nI 1, bz (fun j => Y j ∧ 288 ≤ j), dr, mem, fr, bz (fun j => L j ∧ 18 ≤ j), zz (cz O 18)) := by
  intro r
  induction r with
  | zero =>
    intro i n h hn
    obtain ⟨n, rfl⟩ : ∃ n', n = n' + 1 := ⟨n - 1, by omega⟩
    have : i = 288 := by omega
    subst this
    unfold s_R_crash_66
    rw [if_pos (nI_le (Nat.le_refl _) (by omega))]
    have := cf_crashR_88 (F := F) (dsk := dsk) (y := bz (fun j => Y j ∧ 288 ≤ j)) (dr := dr) (mem := mem) (fr := fr) (mv := mv) (L := L) (O := O) 18 0 F rfl hF
    rw [bzn_0, cz_0] at this
    exact this
  | succ r ih =>
    intro i n h hn
    obtain ⟨n, rfl⟩ : ∃ n', n = n' + 1 := ⟨n - 1, by omega⟩
    unfold s_R_crash_66
    rw [if_neg (nI_ge (by omega) (by omega)), ga_e i rfl (by omega) (by decide), nI_clamp (by omega), nar0, bzn_s, nI_add]
    exact ih (i + 1) n (by omega) (by omega)
theorem cf_crashR_38 {dsk mem : Nat → Int32} {mv : Int32} {L Y : Nat → Prop} {O D K : Nat → Nat} (hF : 288 < F) : ∀ (r i n : Nat), i + r = 36 → r < n → s_R_crash_38 F dsk mv n (nI i) (bz Y) (zz (cz D i)) mem (zz (cz K i)) (bz L) (zz O) = some (nI 1, bz (fun j => Y j ∧ 288 ≤ j), zz (cz D 36), mem, zz (cz K 36), bz (fun j => L j ∧ 18 ≤ j), zz (cz O 18)) := by
  intro r
  induction r with
  | zero =>
    intro i n h hn
    obtain ⟨n, rfl⟩ : ∃ n', n = n' + 1 := ⟨n - 1, by omega⟩
    have : i = 36 := by omega
    subst this
    unfold s_R_crash_38
    rw [if_pos (nI_le (Nat.le_refl _) (by omega))]
    have := cf_crashR_66 (F := F) (dsk := dsk) (Y := Y) (dr := zz (cz D 36)) (mem := mem) (fr := zz (cz K 36)) (mv := mv) (L := L) (O := O) (by omega) 288 0 F rfl hF
    rw [bzn_0] at this
    exact this
  | succ r ih =>
    intro i n h hn
    obtain ⟨n, rfl⟩ : ∃ n', n = n' + 1 := ⟨n - 1, by omega⟩
    unfold s_R_crash_38
    rw [if_neg (nI_ge (by omega) (by omega)), ga_e i rfl (by omega) (by decide), ga_e i rfl (by omega) (by decide), nI_clamp (by omega), nar0, zz_up, zz_up, cz_s, cz_s, nI_add]
    exact ih (i + 1) n (by omega) (by omega)
def cx (A B : Nat → Nat) (b : Nat) : Nat → Nat := fun m => if m < b then B m else A m
theorem cf_crashR_11 {mv : Int32} {L Y : Nat → Prop} {O D K A B : Nat → Nat} (hF : 288 < F) : ∀ (r i n : Nat), i + r = 1080 → r < n → s_R_crash_11 F (zz B) mv n (nI i) (bz Y) (zz D) (zz (cx A B i)) (zz K) (bz L) (zz O) = some (nI 1, bz (fun j => Y j ∧ 288 ≤ j), zz (cz D 36), zz (cx A B 1080), zz (cz K 36), bz (fun j => L j ∧ 18 ≤ j), zz (cz O 18)) := by
  intro r
  induction r with
  | zero =>
    intro i n h hn
    obtain ⟨n, rfl⟩ : ∃ n', n = n' + 1 := ⟨n - 1, by omega⟩
    have : i = 1080 := by omega
    subst this
    unfold s_R_crash_11
    rw [if_pos (nI_le (Nat.le_refl _) (by omega))]
    have := cf_crashR_38 (F := F) (dsk := zz B) (Y := Y) (D := D) (mem := zz (cx A B 1080)) (K := K) (mv := mv) (L := L) (O := O) hF 36 0 F rfl (by omega)
    rw [cz_0, cz_0] at this
    exact this
  | succ r ih =>
    intro i n h hn
    obtain ⟨n, rfl⟩ : ∃ n', n = n' + 1 := ⟨n - 1, by omega⟩
    unfold s_R_crash_11
    rw [if_neg (nI_ge (by omega) (by omega)), gr_e i rfl (by omega) (by decide), ga_e i rfl (by omega) (by decide), nI_clamp (by omega), show zz B i = nI (B i) from rfl, zz_up, show up (cx A B i) i (B i) = cx A B (i + 1) from ?_, nI_add]
    · exact ih (i + 1) n (by omega) (by omega)
    · funext m
      unfold up cx
      by_cases e : m = i
      · rw [if_pos e, if_pos (by omega), e]
      · rw [if_neg e]
        by_cases e' : m < i
        · rw [if_pos e', if_pos (by omega)]
        · rw [if_neg e', if_neg (by omega)]
theorem st_crash (F : Nat) (hF : 1080 < F) : St_crash F Rl0 := by
  intro n v0 v1 v2 v3 v4 v5 v6 v7 v8 v9 v10 v11 v12 v13 r0 r1 r2 r3 r4 r5 r6 r7 r8 r9 r10 r11 hn hR
  obtain ⟨σ, hI, h0, h1, h2, h3, h4, h5, h6, h7, h8, h9, h10, h11, h12, h13, h14, h15, h16, h17, h18, h19, h20, h21, h22, h23⟩ := hR
  subst h0 h1 h2 h3 h4 h5 h6 h7 h8 h9 h10 h11 h12 h13 h14 h15 h16 h17 h18 h23
  have hI' := Inv_s hI hn
  have hb : σ 10 0 ≤ 1 := (Inw_V5 hI.2.1).2.2.1.1
  by_cases z : σ 10 0 = 0
  · have e1 : s_V_crash F (zz (σ 3)) (zz (σ 4)) (zz (σ 5)) (nI (σ 10 0)) (zz (σ 0)) (zz (σ 1)) (zz (σ 2)) (zz (σ 6)) (zz (σ 7)) (zz (σ 8)) (zz (σ 9)) = some (nI 1, zz (crS σ 0), zz (crS σ 1), zz (crS σ 2), zz (crS σ 6), zz (crS σ 7), zz (crS σ 8), zz (crS σ 9)) := by
      unfold s_V_crash
      rw [if_pos (by rw [z]; rfl)]
      have := cf_crash_11 (F := F) (M := σ 0) (T := σ 1) (W := σ 2) (M1 := σ 3) (T1 := σ 4) (W1 := σ 5) (B := σ 6) (Y := σ 7) (D := σ 8) (L := σ 9) (rn := nI (σ 10 0)) (by omega) 36 0 F rfl (by omega)
      rw [cz_0, cz_0, cz_0, show c0 (σ 0) (σ 3) 0 = σ 0 from funext fun m => if_neg (by omega), show c1 (σ 1) (σ 4) 0 = σ 1 from funext fun m => if_neg (by omega), show c2 (σ 2) (σ 5) 0 = σ 2 from funext fun m => pif_f (fun y => by have := y.2; omega)] at this
      refine this.trans ?_
      have a0 : c0 (σ 0) (σ 3) 36 = crS σ 0 := by
        funext m
        show (if _ then _ else _) = if _ then _ else _
        by_cases e : m < 48
        · rw [if_pos e, if_pos (by omega)]
        · rw [if_neg e, if_neg (by omega)]
      have a1 : c1 (σ 1) (σ 4) 36 = crS σ 1 := by
        funext m
        show (if _ then _ else _) = if _ then _ else _
        by_cases e : m < 90
        · rw [if_pos e, if_pos (by omega)]
        · rw [if_neg e, if_neg (by omega)]
      have a2 : c2 (σ 2) (σ 5) 36 = crS σ 2 := funext fun m => pif_congr ⟨fun y => y.1, fun y => ⟨y, y.1⟩⟩
      rw [a0, a1, a2]; rfl
    have e2 : s_R_crash F (zz (rM (σ 3) (σ 4) (σ 5))) (nI (σ 10 0)) (bz (yb σ)) (zz (σ 8)) (zz (rM (σ 0) (σ 1) (σ 2))) (zz (σ 6)) (bz (fun i => σ 9 i = 2)) (zz (owd σ)) = some (nI 1, bz (yb (crS σ)), zz (crS σ 8), zz (rM (crS σ 0) (crS σ 1) (crS σ 2)), zz (crS σ 6), bz (fun i => crS σ 9 i = 2), zz (owd (crS σ))) := by
      unfold s_R_crash
      rw [if_pos (by rw [z]; rfl)]
      have := cf_crashR_11 (F := F) (Y := yb σ) (D := σ 8) (A := rM (σ 0) (σ 1) (σ 2)) (B := rM (σ 3) (σ 4) (σ 5)) (K := σ 6) (L := fun i => σ 9 i = 2) (O := owd σ) (mv := nI (σ 10 0)) (by omega) 1080 0 F rfl hF
      rw [show cx (rM (σ 0) (σ 1) (σ 2)) (rM (σ 3) (σ 4) (σ 5)) 0 = rM (σ 0) (σ 1) (σ 2) from funext fun m => if_neg (by omega)] at this
      refine this.trans ?_
      have b0 : bz (fun j => yb σ j ∧ 288 ≤ j) = bz (yb (crS σ)) := bz_congr (fun j => ⟨fun y => by have := y.1.1; have := y.2; omega, fun y => absurd y cr_yb⟩)
      have b1 : cx (rM (σ 0) (σ 1) (σ 2)) (rM (σ 3) (σ 4) (σ 5)) 1080 = rM (crS σ 0) (crS σ 1) (crS σ 2) := by
        funext m
        unfold cx
        by_cases e : m < 1080
        · rw [if_pos e]
          unfold rM
          by_cases hc : m < 1080 ∧ m % 30 < sz (m / 30)
          · rw [if_pos hc, if_pos hc]
            by_cases x0 : m / 30 % 12 = 0
            · have := sz_0 x0
              rw [if_pos x0, if_pos x0]; exact (if_pos (by omega)).symm
            · rw [if_neg x0, if_neg x0]
              by_cases x1 : m / 30 % 12 = 1
              · rw [if_pos x1, if_pos x1]; exact (if_pos (by omega)).symm
              · have := sz_2 (show 2 ≤ m / 30 % 12 by omega)
                rw [if_neg x1, if_neg x1]
                refine (pif_t ?_).symm
                rw [show (8 * (m / 30) + m % 30) / 8 = m / 30 by omega]
                exact ⟨by omega, by omega⟩
          · rw [if_neg hc, if_neg hc]
        · rw [if_neg e, rM_z (fun y => e y.1), rM_z (fun y => e y.1)]
      have b2 : bz (fun j => σ 9 j = 2 ∧ 18 ≤ j) = bz (fun i => crS σ 9 i = 2) := bz_congr (fun j => by
        show _ ↔ (if j < 18 then 0 else σ 9 j) = 2
        by_cases e : j < 18
        · rw [if_pos e]; exact ⟨fun y => by have := y.2; omega, fun y => by omega⟩
        · rw [if_neg e]; exact ⟨fun y => y.1, fun y => ⟨y, by omega⟩⟩)
      have b3 : cz (owd σ) 18 = owd (crS σ) := by
        funext j
        unfold cz owd
        by_cases e : j < 18
        · rw [if_pos e, if_pos e]
          refine (cn_zero.mpr (fun q hq ⟨x, y, w⟩ => ?_)).symm
          obtain ⟨e1, e2, e3⟩ := cr_w hI.2.1 hq x
          exact w.1 (by rw [e2, ← e1]; exact y)
        · rw [if_neg e, if_neg e, if_neg e]
      rw [b0, b1, b2, b3]; rfl
    exact ⟨_, _, _, _, _, _, _, _, _, _, _, _, _, _, e1, e2, crS σ, Inv_s (cr_Inv hI) hn, rfl, rfl, rfl, rfl, rfl, rfl, rfl, rfl, rfl, rfl, rfl, rfl, rfl, rfl, rfl, rfl, rfl, rfl, rfl, h19, h20, h21, h22, rfl⟩
  · refine ⟨nI 0, zz (σ 0), zz (σ 1), zz (σ 2), zz (σ 6), zz (σ 7), zz (σ 8), zz (σ 9), bz (yb σ), zz (σ 8), zz (rM (σ 0) (σ 1) (σ 2)), zz (σ 6), bz (fun i => σ 9 i = 2), zz (owd σ), ?_, ?_, σ, hI', rfl, rfl, rfl, rfl, rfl, rfl, rfl, rfl, rfl, rfl, rfl, rfl, rfl, rfl, rfl, rfl, rfl, rfl, rfl, h19, h20, h21, h22, rfl⟩
    · unfold s_V_crash; rw [if_neg (fun y => z ((nI0 (by omega)).mp y))]
    · unfold s_R_crash; rw [if_neg (fun y => z ((nI0 (by omega)).mp y))]
end CR
