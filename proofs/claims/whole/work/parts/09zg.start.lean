-- the start
def st0 : St := fun c => if c = 0 ∨ c = 3 then (fun m => if m = 0 ∨ m = 6 then 1 else 0) else if c = 1 ∨ c = 4 then (fun m => if m = 0 ∨ m = 2 then 2 else if m = 1 then 1 else 0) else fun _ => 0
theorem st_1 {m : Nat} : st0 1 m = if m = 0 ∨ m = 2 then 2 else if m = 1 then 1 else 0 := rfl
theorem st_kd {i : Nat} : kd (st0 1) i = if i = 0 then 2 else 0 := by
  show st0 1 (5 * i) = _
  rw [st_1]
  by_cases z : i = 0
  · rw [if_pos z, if_pos (by omega)]
  · rw [if_neg z, if_neg (by omega), if_neg (by omega)]
theorem st_lk {i : Nat} : lk (st0 1) i = if i = 0 then 1 else 0 := by
  show st0 1 (5 * i + 1) = _
  rw [st_1]
  by_cases z : i = 0
  · rw [if_pos z, if_neg (by omega), if_pos (by omega)]
  · rw [if_neg z, if_neg (by omega), if_neg (by omega)]
theorem st_pt {i k : Nat} (hk : k < 3) : pt (st0 1) i k = if i = 0 ∧ k = 0 then 2 else 0 := by
  show st0 1 (5 * i + 2 + k) = _
  rw [st_1]
  by_cases z : i = 0 ∧ k = 0
  · rw [if_pos z, if_pos (by omega)]
  · rw [if_neg z, if_neg (by omega), if_neg (by omega)]
theorem st_sn {q : Nat} : sn st0 q = 0 := rfl
theorem st_pz {i k : Nat} (hk : k < 3) (z : pt (st0 1) i k ≠ 0) : i = 0 ∧ k = 0 := by
  rw [st_pt hk] at z
  refine Classical.byContradiction fun y => z (if_neg y)
theorem st_Inv : Inv 0 st0 := by
  have X : VX (st0 1) := by
    intro i hi
    rw [st_kd, st_lk]
    refine ⟨by split <;> omega, fun k hk => ?_, fun z => ?_, fun z => ?_⟩
    · rw [st_pt hk]; split
      · exact Or.inr ⟨by omega, by omega⟩
      · exact Or.inl rfl
    · by_cases e : i = 0
      · rw [if_pos e] at z; omega
      · exact ⟨if_neg e, fun k hk => by rw [st_pt hk, if_neg (fun y => e y.1)]⟩
    · exact ⟨by rw [st_pt (by omega), if_neg (by omega)], by rw [st_pt (by omega), if_neg (by omega)]⟩
  have L : VL (st0 1) := fun i a b c => by rw [st_kd, if_neg (by omega)] at c; exact absurd rfl c
  have J : VJ (st0 1) := fun i j k l _ _ hk hl h0 he => by
    obtain ⟨a, b⟩ := st_pz hk h0
    obtain ⟨c, d⟩ := st_pz hl (by rw [← he]; exact h0)
    omega
  have R : VR (st0 1) := ⟨rfl, rfl⟩
  have N : Vn 0 (st0 1) := fun i _ => by rw [st_lk]; split <;> omega
  have m1 : ∀ m, st0 0 m ≤ 1 := fun m => by show (if m = 0 ∨ m = 6 then 1 else 0) ≤ 1; split <;> omega
  have w6 : V6 st0 := fun i k _ hk z => by
    obtain ⟨a, b⟩ := st_pz hk z
    subst a b
    exact ⟨rfl, rfl⟩
  have k0 : ∀ i, 0 < i → kd (st0 1) i = 0 := fun i z => by rw [st_kd, if_neg (by omega)]
  refine ⟨by omega, ⟨⟨X, X⟩, L, ⟨J, J⟩, ⟨R, R⟩, ⟨N, N⟩, ⟨fun m _ => ⟨m1 m, m1 m⟩, fun b _ => ⟨Nat.zero_le _, by show (0 : Nat) < 256; omega, Nat.zero_le _⟩, ⟨Nat.zero_le _, fun _ _ _ => rfl⟩, fun q _ => ⟨by show (0 : Nat) < _; omega, by show (0 : Nat) < _; omega⟩⟩, w6, fun b _ z => absurd rfl z, fun i k hi hk z => ?_, fun i _ _ _ => rfl, fun q _ _ z => absurd rfl z, fun q _ _ z => absurd rfl z, fun q _ _ z => absurd rfl z, fun q _ _ => rfl, fun i a _ c => absurd (k0 i a) c, fun i a _ c => absurd (k0 i a) c, fun q z => ?_, fun i _ z => absurd z (by show ¬ (0 : Nat) = 2; decide), fun i _ a b => absurd a b, fun i a _ c => absurd ((k0 i a).symm.trans c) (by decide)⟩, L, fun b _ z => absurd rfl z, fun i _ z => absurd z (by show ¬ (0 : Nat) = 2; decide), fun i _ => Or.inl rfl⟩
  · obtain ⟨a, b⟩ := st_pz hk z
    subst a b
    exact ⟨rfl, rfl, rfl, Or.inl rfl⟩
  · have := z.2
    have this : (0 : Nat).testBit (q % 8) = true := this
    rw [Nat.zero_testBit] at this; cases this
theorem zz_0 : zz (fun _ => 0) = fun _ => (0 : Int32) := by funext j; exact nI_0
theorem st_owd : owd st0 = fun _ => 0 := by
  funext j
  unfold owd
  split
  · exact cn_zero.mpr (fun q _ z => z.2.2.1 rfl)
  · rfl
theorem st_yb : bz (yb st0) = fun _ => (0 : Int32) := by
  rw [bz_z0]
  refine bz_congr (fun q => ⟨fun z => ?_, fun z => z.elim⟩)
  have := z.2
  have this : (0 : Nat).testBit (q % 8) = true := this
  rw [Nat.zero_testBit] at this; cases this
theorem st_rl : bz (fun i => st0 9 i = 2) = fun _ => (0 : Int32) := by
  rw [bz_z0]
  exact bz_congr (fun q => ⟨fun z => absurd z (by show ¬ (0 : Nat) = 2; decide), fun z => z.elim⟩)
theorem st_maps : upd (upd (fun _ => (0 : Int32)) 0 (nI 1)) 6 (nI 1) = zz (st0 0) := by
  funext j
  show _ = nI (if j = 0 ∨ j = 6 then 1 else 0)
  by_cases a : j = 6
  · subst a; rw [pk_us]; rfl
  · rw [pk_un a]
    by_cases b : j = 0
    · subst b; rw [pk_us]; rfl
    · rw [pk_un b, if_neg (by omega)]; exact nI_0.symm
theorem st_tables : upd (upd (upd (fun _ => (0 : Int32)) 0 (nI 2)) 1 (nI 1)) 2 (nI 2) = zz (st0 1) := by
  funext j
  show _ = nI (if j = 0 ∨ j = 2 then 2 else if j = 1 then 1 else 0)
  by_cases a : j = 2
  · subst a; rw [pk_us]; rfl
  · rw [pk_un a]
    by_cases b : j = 1
    · subst b; rw [pk_us]; rfl
    · rw [pk_un b]
      by_cases c : j = 0
      · subst c; rw [pk_us]; rfl
      · rw [pk_un c, if_neg (by omega), if_neg b]; exact nI_0.symm
theorem st_rM {j : Nat} : rM (st0 0) (st0 1) (st0 2) j = if j = 0 ∨ j = 6 ∨ j = 31 then 1 else if j = 30 ∨ j = 32 then 2 else 0 := by
  by_cases h : j < 1080 ∧ j % 30 < sz (j / 30)
  · have hs := h.2
    unfold rM
    rw [if_pos h]
    by_cases h0 : j / 30 % 12 = 0
    · rw [sz_0 h0] at hs
      rw [if_pos h0]
      show (if j / 30 / 12 * 16 + j % 30 = 0 ∨ j / 30 / 12 * 16 + j % 30 = 6 then 1 else 0) = _
      by_cases e : j = 0 ∨ j = 6
      · rw [if_pos (by omega), if_pos (by omega)]
      · rw [if_neg (by omega), if_neg (by omega), if_neg (by omega)]
    · rw [if_neg h0]
      by_cases h1 : j / 30 % 12 = 1
      · rw [if_pos h1, st_1]
        by_cases e : j = 30 ∨ j = 32
        · rw [if_pos (by omega), if_neg (c := j = 0 ∨ j = 6 ∨ j = 31) (by omega), if_pos e]
        · rw [if_neg (c := j / 30 / 12 * 30 + j % 30 = 0 ∨ j / 30 / 12 * 30 + j % 30 = 2) (by omega)]
          by_cases f : j = 31
          · rw [if_pos (by omega), if_pos (by omega)]
          · rw [if_neg (c := j / 30 / 12 * 30 + j % 30 = 1) (by omega), if_neg (c := j = 0 ∨ j = 6 ∨ j = 31) (by omega), if_neg e]
      · rw [if_neg h1, if_neg (c := j = 0 ∨ j = 6 ∨ j = 31) (by omega), if_neg (by omega)]; rfl
  · rw [rM_z h, if_neg, if_neg]
    · intro e
      have : j / 30 = 1 := by omega
      rw [this] at h
      exact h ⟨by omega, by show j % 30 < 30; omega⟩
    · intro e
      by_cases f : j = 31
      · rw [f] at h; exact h ⟨by omega, by decide⟩
      · have : j / 30 = 0 := by omega
        rw [this] at h
        exact h ⟨by omega, by show j % 30 < 16; omega⟩
theorem st_mem : upd (upd (upd (upd (upd (fun _ => (0 : Int32)) 30 (nI 2)) 31 (nI 1)) 32 (nI 2)) 0 (nI 1)) 6 (nI 1) = zz (rM (st0 0) (st0 1) (st0 2)) := by
  funext j
  show _ = nI (rM (st0 0) (st0 1) (st0 2) j)
  rw [st_rM]
  by_cases a : j = 6
  · subst a; rw [pk_us]; rfl
  · rw [pk_un a]
    by_cases b : j = 0
    · subst b; rw [pk_us]; rfl
    · rw [pk_un b]
      by_cases c : j = 32
      · subst c; rw [pk_us]; rfl
      · rw [pk_un c]
        by_cases d : j = 31
        · subst d; rw [pk_us]; rfl
        · rw [pk_un d]
          by_cases e : j = 30
          · subst e; rw [pk_us]; rfl
          · rw [pk_un e, if_neg (by omega), if_neg (by omega)]; exact nI_0.symm
theorem Rl0_start {Z g : AR} (hZ : Z = fun _ => 0) (h1 : ∀ j, j < 1080 → g j = upd (upd (upd (upd (upd Z 30 (nI 2)) 31 (nI 1)) 32 (nI 2)) 0 (nI 1)) 6 (nI 1) j) (h2 : ∀ j, 1080 ≤ j → g j = 0) : Rl0 0 (upd (upd Z 0 (nI 1)) 6 (nI 1)) (upd (upd (upd Z 0 (nI 2)) 1 (nI 1)) 2 (nI 2)) Z Z Z (upd (upd Z 0 (nI 1)) 6 (nI 1)) (upd (upd (upd Z 0 (nI 2)) 1 (nI 1)) 2 (nI 2)) Z Z Z Z Z Z (nI 0) (upd (upd (upd (upd (upd Z 30 (nI 2)) 31 (nI 1)) 32 (nI 2)) 0 (nI 1)) 6 (nI 1)) g Z Z Z Z Z Z Z Z Z 0 := by
  subst hZ
  have hg : g = zz (rM (st0 3) (st0 4) (st0 5)) := by
    funext j
    by_cases a : j < 1080
    · rw [h1 j a, st_mem]; rfl
    · rw [h2 j (by omega)]
      show _ = nI (rM _ _ _ j)
      rw [rM_z (fun z => a z.1)]; exact nI_0.symm
  refine ⟨st0, st_Inv, st_maps, st_tables, zz_0.symm, zz_0.symm, st_maps, st_tables, zz_0.symm, zz_0.symm, zz_0.symm, zz_0.symm, zz_0.symm, rfl, st_mem, hg, zz_0.symm, st_yb.symm, zz_0.symm, st_rl.symm, ?_, ⟨fun _ => 0, zz_0.symm⟩, ⟨fun _ => False, bz_z0⟩, ⟨fun _ => False, bz_z0⟩, ⟨fun _ => False, bz_z0⟩, nI_0.symm⟩
  rw [st_owd]; exact zz_0.symm
theorem Rl0_s : ∀ n (v0 v1 v2 v3 v4 v5 v6 v7 v8 v9 v10 v11 v12 : AR) (v13 : Int32) (r0 r1 r2 r3 r4 r5 r6 r7 r8 r9 r10 : AR) (r11 : Int32), n < 512 → Rl0 n v0 v1 v2 v3 v4 v5 v6 v7 v8 v9 v10 v11 v12 v13 r0 r1 r2 r3 r4 r5 r6 r7 r8 r9 r10 r11 → Rl0 (n + 1) v0 v1 v2 v3 v4 v5 v6 v7 v8 v9 v10 v11 v12 v13 r0 r1 r2 r3 r4 r5 r6 r7 r8 r9 r10 r11 := by
  intro n v0 v1 v2 v3 v4 v5 v6 v7 v8 v9 v10 v11 v12 v13 r0 r1 r2 r3 r4 r5 r6 r7 r8 r9 r10 r11 hn ⟨σ, hI, hr⟩
  exact ⟨σ, Inv_s hI hn, hr⟩
