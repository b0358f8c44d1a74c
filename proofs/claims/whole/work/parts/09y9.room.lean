-- room for a new inode: class and reference
section RO
variable {n F : Nat} {σ : St} {d : Nat}
theorem fi_or {M T : Nat → Nat} {g : Nat} (hg : g < 3) : (fi M T g = -1 ∧ ∀ j, j < 18 → ¬ fre M T j) ∨ ∃ i, i < 18 ∧ fre M T i ∧ fi M T g = nI i := by
  unfold fi
  by_cases h : sr (fun j => fre M T ((6 * g + j) % 18)) 18 < 18
  · rw [if_pos h]
    exact Or.inr ⟨_, Nat.mod_lt _ (by omega), (sr_spec (fun j => fre M T ((6 * g + j) % 18)) 18).2.1 h, rfl⟩
  · rw [if_neg h]
    refine Or.inl ⟨rfl, fun j hj z => h (sr_lt.mpr ⟨(j + (18 - 6 * g)) % 18, Nat.mod_lt _ (by omega), ?_⟩)⟩
    rw [show (6 * g + (j + (18 - 6 * g)) % 18) % 18 = j by omega]; exact z
theorem fb_or {M : Nat → Nat} {g : Nat} (hg : g < 3) : (fb M g = -1 ∧ ∀ b, b < 36 → ¬ frb M b) ∨ ∃ b, isD b ∧ bm M b = 0 ∧ fb M g = nI b := by
  unfold fb
  by_cases h : sr (fun j => frb M ((12 * g + j) % 36)) 36 < 36
  · rw [if_pos h]
    have := (sr_spec (fun j => frb M ((12 * g + j) % 36)) 36).2.1 h
    exact Or.inr ⟨_, ⟨Nat.mod_lt _ (by omega), this.1⟩, this.2, rfl⟩
  · rw [if_neg h]
    refine Or.inl ⟨rfl, fun j hj z => h (sr_lt.mpr ⟨(j + (36 - 12 * g)) % 36, Nat.mod_lt _ (by omega), ?_⟩)⟩
    rw [show (12 * g + (j + (36 - 12 * g)) % 36) % 36 = j by omega]; exact z
noncomputable def gNw (σ : St) (d : Nat) (x3 : Int32) : Nat := if x3 = 0 then d / 6 else rg (fg (σ 0) (σ 1) 0) (fg (σ 0) (σ 1) 1) (fg (σ 0) (σ 1) 2)
theorem gNw_lt (hd : d < 18) {x3 : Int32} : gNw σ d x3 < 3 := by
  unfold gNw; split
  · omega
  · exact rg_lt
def rmN (σ : St) (d : Nat) (x3 : Int32) : Prop := sr (pc0 (σ 1) (σ 2) (σ 5) (σ 6) d) 8 < 8 ∧ (∃ i, i < 18 ∧ fre (σ 0) (σ 1) i) ∧ (x3 = 0 ∨ ∃ b, b < 36 ∧ frb (σ 0) b)
theorem inF (hF : 36 < F) (hI : Inv n σ) (hd : d < 18) {x3 : Int32} (hx : x3 = 0 ∨ x3 = 1) : s_R_inodeFor F (zz (rM (σ 0) (σ 1) (σ 2))) (nI d) x3 = some (fi (σ 0) (σ 1) (gNw σ d x3)) := by
  have hM : ∀ m, m < 48 → σ 0 m ≤ 1 := fun m hm => ((Inw_V5 hI.2.1).1 m hm).1
  unfold gNw
  rcases hx with rfl | rfl
  · rw [if_pos rfl]; exact cf_inodeFor_f (by omega) (Inv_VT1 hI) hM hd
  · rw [if_neg (show ¬ (1 : Int32) = 0 by decide)]; exact cf_inodeFor_d (by omega) (Inv_VT1 hI) hM hd
theorem lk_V (hF : 36 < F) (hI : Inv n σ) (hd : d < 18) (h2 : kd (σ 1) d = 2) (hp : pt (σ 1) d 0 ≠ 0) {x3 : Int32} : s_V_lacksForNew F (zz (σ 0)) (zz (σ 1)) (zz (σ 2)) (zz z1) (zz (σ 5)) (zz (σ 6)) (nI d) x3 = some (pif (rmN σ d x3) (nI 0) (nI 1)) := by
  have hM : ∀ m, m < 48 → σ 0 m ≤ 1 := fun m hm => ((Inw_V5 hI.2.1).1 m hm).1
  have e1 : s_S_freeInode F (zz (σ 0)) (zz (σ 1)) (nI 0) = some (fi (σ 0) (σ 1) 0) := cf_freeInode (by omega) (Inv_VT1 hI) hM (by omega)
  have e2 : s_S_freeBlock F (zz (σ 0)) (nI 0) = some (fb (σ 0) 0) := cf_freeBlock (by omega) hM (by omega)
  unfold s_V_lacksForNew s_V_lacksForNew_37 s_V_lacksForNew_41
  rw [bd_e (pl_V (by omega) hI hd h2 hp)]
  by_cases a : sr (pc0 (σ 1) (σ 2) (σ 5) (σ 6) d) 8 < 8
  · rw [ans_t a, if_neg (nI_m1 (by omega)), bd_e e1]
    rcases fi_or (M := σ 0) (T := σ 1) (g := 0) (by omega) with ⟨b, b'⟩ | ⟨i, i18, b, b'⟩
    · rw [b, if_pos rfl, pif_f (fun z => by obtain ⟨j, hj, z'⟩ := z.2.1; exact b' j hj z')]
    · rw [b', if_neg (nI_m1 (by omega))]
      by_cases c : x3 = 0
      · rw [if_pos c, pif_t ⟨a, ⟨i, i18, b⟩, Or.inl c⟩]
      · rw [if_neg c, bd_e e2]
        rcases fb_or (M := σ 0) (g := 0) (by omega) with ⟨e, e'⟩ | ⟨k, kD, e, e'⟩
        · rw [e, if_pos rfl, pif_f (fun z => by obtain ⟨j, hj, z'⟩ := z.2.2.resolve_left c; exact e' j hj z')]
        · have := kD.1
          rw [e', if_neg (nI_m1 (by omega)), pif_t ⟨a, ⟨i, i18, b⟩, Or.inr ⟨k, kD.1, kD.2, e⟩⟩]
  · rw [ans_f a, if_pos rfl, pif_f (fun z => a z.1)]
theorem ro_R (hF : 36 < F) (hI : Inv n σ) (hd : d < 18) (h2 : kd (σ 1) d = 2) (hp : pt (σ 1) d 0 ≠ 0) {x3 : Int32} (hx : x3 = 0 ∨ x3 = 1) : s_R_room F (zz (rM (σ 0) (σ 1) (σ 2))) (zz (rM (σ 3) (σ 4) (σ 5))) (zz (σ 6)) (nI d) x3 = some (pif (rmN σ d x3) (nI 1) (nI 0)) := by
  have hM : ∀ m, m < 48 → σ 0 m ≤ 1 := fun m hm => ((Inw_V5 hI.2.1).1 m hm).1
  unfold s_R_room s_R_room_38 s_R_room_34
  rw [bd_e (inF hF hI hd hx), bd_e (pl_R (by omega) hI hd h2 hp)]
  by_cases a : sr (pc0 (σ 1) (σ 2) (σ 5) (σ 6) d) 8 < 8
  · rw [ans_t a, if_neg (nI_pos (by omega))]
    rcases fi_or (M := σ 0) (T := σ 1) (gNw_lt (σ := σ) hd (x3 := x3)) with ⟨b, b'⟩ | ⟨i, i18, b, b'⟩
    · rw [b, if_pos (show (-1 : Int32) < 0 by decide), pif_f (fun z => by obtain ⟨j, hj, z'⟩ := z.2.1; exact b' j hj z')]
    · rw [b', if_neg (nI_pos (by omega))]
      by_cases c : x3 = 0
      · rw [if_pos c, pif_t ⟨a, ⟨i, i18, b⟩, Or.inl c⟩]
      · rw [if_neg c, pk_div (by omega) (by decide) (by decide), bd_e (cf_blockFrom hF hM (show i / 6 < 3 by omega))]
        rcases fb_or (M := σ 0) (g := i / 6) (by omega) with ⟨e, e'⟩ | ⟨k, kD, e, e'⟩
        · rw [e, if_pos (show (-1 : Int32) < 0 by decide), pif_f (fun z => by obtain ⟨j, hj, z'⟩ := z.2.2.resolve_left c; exact e' j hj z')]
        · have := kD.1
          rw [e', if_neg (nI_pos (by omega)), pif_t ⟨a, ⟨i, i18, b⟩, Or.inr ⟨k, kD.1, kD.2, e⟩⟩]
  · rw [ans_f a, if_pos (show (-1 : Int32) < 0 by decide), pif_f (fun z => a z.1)]
end RO
