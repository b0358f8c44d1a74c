-- the invariant between calls
def yb (σ : St) (q : Nat) : Prop := q < 288 ∧ (σ 7 (q / 8)).testBit (q % 8) = true
noncomputable def Ud (σ : St) (i : Nat) : Nat := cn (fun q => DB σ (q / 8) ∧ (nmD σ i q ∨ (nmM σ i q ∧ ¬ yb σ q))) 288
noncomputable def owd (σ : St) (i : Nat) : Nat := if i < 18 then cn (fun q => DB σ (q / 8) ∧ σ 2 q = 0 ∧ nmD σ i q) 288 else 0
def VX (T : Nat → Nat) : Prop := ∀ i, i < 18 → kd T i ≤ 2 ∧ (∀ k, k < 3 → pt T i k = 0 ∨ isD (pt T i k)) ∧ (kd T i = 0 → lk T i = 0 ∧ ∀ k, k < 3 → pt T i k = 0) ∧ (kd T i = 2 → pt T i 1 = 0 ∧ pt T i 2 = 0)
def VL (T : Nat → Nat) : Prop := ∀ i, 0 < i → i < 18 → kd T i ≠ 0 → 0 < lk T i
def VJ (T : Nat → Nat) : Prop := ∀ i j k l, i < 18 → j < 18 → k < 3 → l < 3 → pt T i k ≠ 0 → pt T i k = pt T j l → i = j ∧ k = l
def VR (T : Nat → Nat) : Prop := kd T 0 = 2 ∧ pt T 0 0 = 2
def Vn (n : Nat) (T : Nat → Nat) : Prop := ∀ i, i < 18 → lk T i ≤ n + 1
def V5 (σ : St) : Prop := (∀ m, m < 48 → σ 0 m ≤ 1 ∧ σ 3 m ≤ 1) ∧ (∀ b, b < 36 → σ 6 b ≤ 1 ∧ σ 7 b < 256 ∧ σ 8 b ≤ 2) ∧ (σ 10 0 ≤ 1 ∧ ∀ b, b < 36 → b % 12 = 1 → σ 6 b = 0) ∧ (∀ q, q < 288 → σ 2 q < 2 ^ 32 ∧ σ 5 q < 2 ^ 32)
def V9 (σ : St) : Prop := ∀ i, i < 18 → σ 9 i = 0 ∨ σ 9 i = 2
def V6 (σ : St) : Prop := ∀ i k, i < 18 → k < 3 → pt (σ 1) i k ≠ 0 → bm (σ 0) (pt (σ 1) i k) = 1 ∧ σ 8 (pt (σ 1) i k) = 0
def V7 (σ : St) : Prop := ∀ b, b < 36 → σ 8 b ≠ 0 → isD b ∧ bm (σ 0) b = 1
def V7s (σ : St) : Prop := ∀ b, b < 36 → σ 8 b ≠ 0 → dn σ b
def V8 (σ : St) : Prop := ∀ i k, i < 18 → k < 3 → pt (σ 4) i k ≠ 0 → bm (σ 0) (pt (σ 4) i k) = 1 ∧ bm (σ 3) (pt (σ 4) i k) = 1 ∧ σ 6 (pt (σ 4) i k) = 0 ∧ (pt (σ 1) i k = pt (σ 4) i k ∨ (σ 8 (pt (σ 4) i k) = kd (σ 4) i ∧ (kd (σ 4) i = 2 → kd (σ 1) i = 0)))
def V10 (σ : St) : Prop := ∀ i, i < 18 → kd (σ 4) i ≠ 0 → kd (σ 1) i ≠ 0 → kd (σ 4) i = kd (σ 1) i
def ok (e : Nat) : Prop := 32 ≤ e ∧ e < 32000 ∧ 0 < e % 32 ∧ e % 32 < 18
def V11 (σ : St) : Prop := ∀ q, q < 288 → DB σ (q / 8) → σ 2 q ≠ 0 → ok (σ 2 q) ∧ kd (σ 1) (σ 2 q % 32) ≠ 0 ∧ im (σ 0) (σ 2 q % 32) = 1 ∧ (kd (σ 1) (σ 2 q % 32) = 2 → pt (σ 1) (σ 2 q % 32) 0 ≠ 0) ∧ (¬ yb σ q → kd (σ 4) (σ 2 q % 32) ≠ 0)
def V12 (σ : St) : Prop := ∀ q, q < 288 → DB σ (q / 8) → sn σ q ≠ 0 → ok (sn σ q) ∧ kd (σ 1) (sn σ q % 32) ≠ 0 ∧ im (σ 0) (sn σ q % 32) = 1 ∧ kd (σ 4) (sn σ q % 32) ≠ 0 ∧ im (σ 3) (sn σ q % 32) = 1 ∧ (kd (σ 4) (sn σ q % 32) = 2 → pt (σ 4) (sn σ q % 32) 0 ≠ 0)
def V13 (σ : St) : Prop := ∀ q, q < 288 → DB σ (q / 8) → σ 2 q ≠ 0 → sn σ q ≠ 0 → σ 2 q = sn σ q
def V14 (σ : St) : Prop := ∀ q, q < 288 → σ 8 (q / 8) = 2 → σ 2 q = 0
def V15 (σ : St) : Prop := ∀ i, 0 < i → i < 18 → kd (σ 1) i ≠ 0 → Un σ i ≤ lk (σ 1) i
def V16 (σ : St) : Prop := ∀ i, 0 < i → i < 18 → kd (σ 4) i ≠ 0 → Ud σ i ≤ lk (σ 4) i
def V17 (σ : St) : Prop := ∀ q, yb σ q → (σ 2 q ≠ 0 ∧ sn σ q = 0) ∧ q / 8 ≠ 0 ∧ ∃ i, i < 18 ∧ kd (σ 1) i = 2 ∧ pt (σ 1) i 0 = q / 8
def V18 (σ : St) : Prop := ∀ i, i < 18 → σ 9 i = 2 → kd (σ 1) i = 0 ∧ im (σ 0) i = 1
def V18s (σ : St) : Prop := ∀ i, i < 18 → σ 9 i = 2 → kd (σ 4) i ≠ 0
def V19 (σ : St) : Prop := ∀ i, i < 18 → kd (σ 1) i = 0 → kd (σ 4) i ≠ 0 → σ 9 i = 2
def V20 (σ : St) : Prop := ∀ i, 0 < i → i < 18 → kd (σ 1) i = 2 → pt (σ 1) i 0 ≠ 0 → (∀ q, q < 288 → DB σ (q / 8) → ¬ nmM σ i q) → (∃ c, c < 8 ∧ σ 2 (8 * pt (σ 1) i 0 + c) ≠ 0) → Un σ i < lk (σ 1) i
-- what holds also within a call, and what only between calls
def Inw (n : Nat) (σ : St) : Prop := (VX (σ 1) ∧ VX (σ 4)) ∧ VL (σ 4) ∧ (VJ (σ 1) ∧ VJ (σ 4)) ∧ (VR (σ 1) ∧ VR (σ 4)) ∧ (Vn n (σ 1) ∧ Vn n (σ 4)) ∧ V5 σ ∧ V6 σ ∧ V7 σ ∧ V8 σ ∧ V10 σ ∧ V11 σ ∧ V12 σ ∧ V13 σ ∧ V14 σ ∧ V15 σ ∧ V16 σ ∧ V17 σ ∧ V18 σ ∧ V19 σ ∧ V20 σ
def Ins (σ : St) : Prop := VL (σ 1) ∧ V7s σ ∧ V18s σ ∧ V9 σ
def Inv (n : Nat) (σ : St) : Prop := n ≤ 512 ∧ Inw n σ ∧ Ins σ
def Rl0 : RlT := fun n a0 a1 a2 a3 _ d0 d1 d2 d3 _ y dr lv rn m d fr ry rd rl ow ct i1 i2 i3 mv =>
  ∃ σ : St, Inv n σ ∧ a0 = zz (σ 0) ∧ a1 = zz (σ 1) ∧ a2 = zz (σ 2) ∧ a3 = zz z1 ∧ d0 = zz (σ 3) ∧ d1 = zz (σ 4) ∧ d2 = zz (σ 5) ∧ d3 = zz (σ 6) ∧ y = zz (σ 7) ∧ dr = zz (σ 8) ∧ lv = zz (σ 9) ∧ rn = nI (σ 10 0) ∧ m = zz (rM (σ 0) (σ 1) (σ 2)) ∧ d = zz (rM (σ 3) (σ 4) (σ 5)) ∧ fr = zz (σ 6) ∧ ry = bz (yb σ) ∧ rd = zz (σ 8) ∧ rl = bz (fun i => σ 9 i = 2) ∧ ow = zz (owd σ) ∧ (∃ C : Nat → Nat, ct = zz C) ∧ (∃ S, i1 = bz S) ∧ (∃ S, i2 = bz S) ∧ (∃ S, i3 = bz S) ∧ mv = nI (σ 10 0)
theorem VX_VT {n : Nat} {T : Nat → Nat} (h : VX T) (hn : Vn n T) (h5 : n ≤ 1000) : VT T := fun i hi => ⟨(h i hi).1, by have := hn i hi; omega, (h i hi).2.1⟩
theorem DBm {σ : St} {d : Nat} (hd : d < 18) (h2 : kd (σ 1) d = 2) (h0 : pt (σ 1) d 0 ≠ 0) : DB σ (pt (σ 1) d 0) := ⟨h0, Or.inr ⟨d, hd, h2, rfl⟩⟩
theorem DBd {n : Nat} {σ : St} (h : Inw n σ) {d : Nat} (hd : d < 18) (h2 : kd (σ 4) d = 2) (h0 : pt (σ 4) d 0 ≠ 0) : DB σ (pt (σ 4) d 0) := by
  obtain ⟨⟨hX, -⟩, -, -, -, -, -, -, -, h8, h10, -⟩ := h
  refine ⟨h0, ?_⟩
  rcases (h8 d 0 hd (by omega) h0).2.2.2 with e | e
  · right
    have hk : kd (σ 1) d ≠ 0 := fun z => h0 (by rw [← e]; exact ((hX d hd).2.2.1 z).2 0 (by omega))
    exact ⟨d, hd, by rw [← h10 d hd (by omega) hk]; exact h2, e⟩
  · left; rw [e.1]; exact h2
theorem VEm {n : Nat} {σ : St} (h : Inw n σ) : VE (σ 1) (σ 2) z1 := by
  obtain ⟨⟨hX, -⟩, -, -, -, -, -, -, -, -, -, h11, -⟩ := h
  intro d c hd hc
  unfold en
  by_cases hh : kd (σ 1) d = 2 ∧ pt (σ 1) d 0 ≠ 0 ∧ z1 (pt (σ 1) d 0) = 0
  · rw [if_pos hh]
    have hp : pt (σ 1) d 0 < 36 := by
      rcases (hX d hd).2.1 0 (by omega) with e | e
      · omega
      · exact e.1
    by_cases h0 : σ 2 (8 * pt (σ 1) d 0 + c) = 0
    · exact ⟨by omega, fun z => absurd h0 z⟩
    · have := h11 (8 * pt (σ 1) d 0 + c) (by omega) (by rw [show (8 * pt (σ 1) d 0 + c) / 8 = pt (σ 1) d 0 by omega]; exact DBm hd hh.1 hh.2.1) h0
      exact ⟨by have := this.1.2.1; omega, fun _ => this.1.2.2.2⟩
  · rw [if_neg hh]; exact ⟨by omega, fun z => absurd rfl z⟩
theorem sn_sdw {σ : St} {q : Nat} : sn σ q = sdw (σ 5) (σ 6) q := rfl
theorem VEd {n : Nat} {σ : St} (h : Inw n σ) : VE (σ 4) (σ 5) (σ 6) := by
  have h' := h
  obtain ⟨⟨-, hX⟩, -, -, -, -, -, -, -, -, -, -, h12, -⟩ := h
  intro d c hd hc
  by_cases hh : kd (σ 4) d = 2 ∧ pt (σ 4) d 0 ≠ 0
  · rw [en_e hc hh.1 hh.2, ← sn_sdw]
    have hp : pt (σ 4) d 0 < 36 := by
      rcases (hX d hd).2.1 0 (by omega) with e | e
      · omega
      · exact e.1
    by_cases h0 : sn σ (8 * pt (σ 4) d 0 + c) = 0
    · exact ⟨by omega, fun z => absurd h0 z⟩
    · have := h12 (8 * pt (σ 4) d 0 + c) (by omega) (by rw [show (8 * pt (σ 4) d 0 + c) / 8 = pt (σ 4) d 0 by omega]; exact DBd h' hd hh.1 hh.2) h0
      exact ⟨by have := this.1.2.1; omega, fun _ => this.1.2.2.2⟩
  · have : en (σ 4) (σ 5) (σ 6) d c = 0 := by unfold en; rw [if_neg (fun z => hh ⟨z.1, z.2.1⟩)]
    rw [this]; exact ⟨by omega, fun z => absurd rfl z⟩
-- a directory of the tree of memory has its block
theorem tree_pt {n : Nat} {σ : St} (h : Inw n σ) {d : Nat} (ht : Tr (Ed (σ 1) (σ 2) z1) 0 d) (h2 : kd (σ 1) d = 2) : pt (σ 1) d 0 ≠ 0 := by
  have hV := VEm h
  obtain ⟨⟨hX, -⟩, -, -, ⟨hR, -⟩, -, -, -, -, -, -, h11, -⟩ := h
  have hlt := Tr_lt hV (show (0 : Nat) < 18 by omega) ht
  rcases Tr_last ht with e | ⟨a, ta, c, hc, e1, e2⟩
  · subst e; rw [hR.2]; decide
  · have ha := Tr_lt hV (show (0 : Nat) < 18 by omega) ta
    have hh : kd (σ 1) a = 2 ∧ pt (σ 1) a 0 ≠ 0 := by
      refine Classical.byContradiction fun z => e1 ?_
      unfold en; rw [if_neg (fun y => z ⟨y.1, y.2.1⟩)]
    rw [en_m hh.1 hh.2] at e1 e2
    have hp : pt (σ 1) a 0 < 36 := by
      rcases (hX a ha).2.1 0 (by omega) with e | e
      · omega
      · exact e.1
    have := h11 (8 * pt (σ 1) a 0 + c) (by omega) (by rw [show (8 * pt (σ 1) a 0 + c) / 8 = pt (σ 1) a 0 by omega]; exact DBm ha hh.1 hh.2) e1
    rw [e2] at this
    exact this.2.2.2.1 h2
theorem Inv_s {n : Nat} {σ : St} (h : Inv n σ) (hn : n < 512) : Inv (n + 1) σ := by
  obtain ⟨-, ⟨a, b, c, d, ⟨e1, e2⟩, f⟩, g⟩ := h
  exact ⟨by omega, ⟨a, b, c, d, ⟨fun i hi => by have := e1 i hi; omega, fun i hi => by have := e2 i hi; omega⟩, f⟩, g⟩
