-- the reference: the tree on the disk, below, tree
def sdw (W K : Nat → Nat) (q : Nat) : Nat := if K (q / 8) = 0 then W q else 0
theorem sdw_e {W K : Nat → Nat} {b c : Nat} (hc : c < 8) : (if K b = 0 then nI (W (8 * b + c)) else nI 0) = nI (sdw W K (8 * b + c)) := by
  unfold sdw
  rw [show (8 * b + c) / 8 = b by omega]
  by_cases h : K b = 0
  · rw [if_pos h, if_pos h]
  · rw [if_neg h, if_neg h]
theorem en_e {T W K : Nat → Nat} {d c : Nat} (hc : c < 8) (h2 : kd T d = 2) (h0 : pt T d 0 ≠ 0) : en T W K d c = sdw W K (8 * pt T d 0 + c) := by
  unfold en sdw
  rw [show (8 * pt T d 0 + c) / 8 = pt T d 0 by omega]
  by_cases h : K (pt T d 0) = 0
  · rw [if_pos ⟨h2, h0, h⟩, if_pos h]
  · rw [if_neg (fun q => h q.2.2), if_neg h]
theorem cf_seen' {A B C K : Nat → Nat} {b c : Nat} (hb : isD b) (hc : c < 8) (hK : K b ≤ 1) : s_R_seen (zz (rM A B C)) (zz K) (nI b) (nI c) = some (nI (sdw C K (8 * b + c))) := by
  rw [cf_seen hb hc hK, sdw_e hc]
theorem cf_word' {W B : Nat → Nat} {b c : Nat} (hb : b < 36) (hc : c < 8) (h1 : B b ≤ 1) : s_S_word (zz W) (zz B) (nI b) (nI c) = some (nI (sdw W B (8 * b + c))) := by
  rw [cf_word hb hc h1, sdw_e hc]
theorem cf_spread_73d {F : Nat} {A T W K : Nat → Nat} {mem : Nat → Int32} {i : Nat} (hT : VT T) (hK : ∀ b, b < 36 → K b ≤ 1) (hE : VE T W K) (hi : i < 18) (h2 : kd T i = 2) (h0 : pt T i 0 ≠ 0) : ∀ (r c n : Nat) (S : Nat → Prop), c + r = 8 → r < n → s_R_spread_inMemory_73 F mem (zz (rM A T W)) (zz K) n (nI 1) (nI (pt T i 0)) (nI c) (bz S) = some (bz (fun j => S j ∨ ∃ c', c ≤ c' ∧ c' < 8 ∧ en T W K i c' ≠ 0 ∧ en T W K i c' % 32 = j)) := by
  have hD := isD_p hT hi (k := 0) (by omega) h0
  intro r
  induction r with
  | zero =>
    intro c n S hc hn
    obtain ⟨n, rfl⟩ : ∃ q, n = q + 1 := ⟨n - 1, by omega⟩
    unfold s_R_spread_inMemory_73
    rw [if_pos (nI_le (by omega) (by omega))]
    congr 1
    exact bz_congr (fun j => ⟨Or.inl, fun q => q.resolve_right (fun ⟨c', q1, q2, _⟩ => by omega)⟩)
  | succ r ih =>
    intro c n S hc hn
    obtain ⟨n, rfl⟩ : ∃ q, n = q + 1 := ⟨n - 1, by omega⟩
    obtain ⟨v1, v2⟩ := hE i c hi (by omega)
    unfold s_R_spread_inMemory_73 s_R_spread_inMemory_108
    rw [if_neg (nI_ge (by omega) (by omega)), if_neg (show ¬ nI 1 = 0 by decide), bd_e (cf_seen' hD (by omega) (hK _ hD.1)), ← en_e (by omega) h2 h0, nI_add]
    by_cases hz : en T W K i c = 0
    · rw [if_pos (by rw [hz]; rfl), ih (c + 1) n S (by omega) (by omega)]
      congr 1
      refine bz_congr (fun j => or_congr_right ⟨fun ⟨c', q1, q2⟩ => ⟨c', by omega, q2⟩, fun ⟨c', q1, q2, q3, q4⟩ => ⟨c', ?_, q2, q3, q4⟩⟩)
      by_cases e : c' = c
      · subst e; exact absurd hz q3
      · omega
    · have h18 := v2 hz
      rw [if_neg (fun q => hz ((nI0 v1).mp q)), pk_rem v1 (by decide) (by decide), ga_e _ rfl h18 (by decide), nI_clamp (by omega), nar1, bz_1, ih (c + 1) n _ (by omega) (by omega)]
      congr 1
      refine bz_congr (fun j => ⟨fun q => ?_, fun q => ?_⟩)
      · rcases q with (q | q) | ⟨c', q1, q2⟩
        · exact Or.inl q
        · exact Or.inr ⟨c, Nat.le_refl _, by omega, hz, q.symm⟩
        · exact Or.inr ⟨c', by omega, q2⟩
      · rcases q with q | ⟨c', q1, q2, q3, q4⟩
        · exact Or.inl (Or.inl q)
        · by_cases e : c' = c
          · subst e; exact Or.inl (Or.inr q4.symm)
          · exact Or.inr ⟨c', by omega, q2, q3, q4⟩
theorem cf_spread_d {F : Nat} {A T W K : Nat → Nat} {mem : Nat → Int32} {i : Nat} (hF : 8 < F) (hT : VT T) (hK : ∀ b, b < 36 → K b ≤ 1) (hE : VE T W K) (hi : i < 18) (S : Nat → Prop) : s_R_spread_inMemory F mem (zz (rM A T W)) (zz K) (nI 1) (nI i) (bz S) = some (bz (fun j => S j ∨ Ed T W K i j)) := by
  have hk := VT_k hT hi
  have hp := VT_p hT hi (k := 0) (by omega)
  unfold s_R_spread_inMemory s_R_spread_inMemory_27 s_R_spread_inMemory_56
  rw [if_neg (show ¬ nI 1 = 0 by decide), bd_e (cf_at hi (by omega)), rd_t hi (by omega), if_neg (show ¬ nI 1 = 0 by decide), bd_e (cf_at hi (by omega)), rd_t hi (by omega)]
  show (if nI (kd T i) = nI 2 then (if nI (pt T i 0) = 0 then _ else _) else _) = _
  by_cases h2 : kd T i = 2
  · rw [if_pos (by rw [h2])]
    by_cases h0 : pt T i 0 = 0
    · rw [if_pos (by rw [h0]; rfl)]
      congr 1
      refine bz_congr (fun j => ⟨Or.inl, fun q => q.resolve_right (fun ⟨c, _, q1, _⟩ => q1 ?_)⟩)
      unfold en; rw [if_neg (fun z => z.2.1 h0)]
    · rw [if_neg (fun q => h0 ((nI0 (by omega)).mp q))]
      have := cf_spread_73d (F := F) (A := A) (mem := mem) hT hK hE hi h2 h0 8 0 F S rfl hF
      refine Eq.trans this ?_
      congr 1
      exact bz_congr (fun j => or_congr_right ⟨fun ⟨c, _, q⟩ => ⟨c, q⟩, fun ⟨c, q⟩ => ⟨c, Nat.zero_le _, q⟩⟩)
  · rw [if_neg (fun q => h2 ((nI_eq (by omega) (by decide)).mp q))]
    congr 1
    refine bz_congr (fun j => ⟨Or.inl, fun q => q.resolve_right (fun ⟨c, _, q1, _⟩ => q1 ?_)⟩)
    unfold en; rw [if_neg (fun z => h2 z.1)]
section BEL
variable {F : Nat} {mem dsk fresh : Nat → Int32} {x1 : Int32} {E : Nat → Nat → Prop}
theorem cf_below_11 {k2 : Int32 → Int32 → (Nat → Int32) → Option (Nat → Int32)} {x3 : Int32} (hsp : ∀ i S, i < 18 → s_R_spread_inMemory F mem dsk fresh x1 (nI i) (bz S) = some (bz (fun j => S j ∨ E i j))) : ∀ (r k n : Nat) (S : Nat → Prop), k + r = 18 → r < n →
    ∃ S' : Nat → Prop, (∀ j, S j → S' j) ∧ (∀ a b, k ≤ a → a < 18 → S a → E a b → S' b) ∧ (∀ Q : Nat → Prop, (∀ j, S j → Q j) → (∀ a b, a < 18 → Q a → E a b → Q b) → ∀ j, S' j → Q j) ∧ s_R_below_inMemory_11 F mem dsk fresh k2 n x1 x3 (nI k) (bz S) = k2 x1 (x3 + nI 1) (bz S') := by
  intro r
  induction r with
  | zero =>
    intro k n S hk hn
    obtain ⟨n, rfl⟩ : ∃ q, n = q + 1 := ⟨n - 1, by omega⟩
    refine ⟨S, fun _ h => h, fun a b h1 h2 => by omega, fun Q h _ => h, ?_⟩
    unfold s_R_below_inMemory_11
    rw [if_pos (nI_le (by omega) (by omega))]
  | succ r ih =>
    intro k n S hk hn
    obtain ⟨n, rfl⟩ : ∃ q, n = q + 1 := ⟨n - 1, by omega⟩
    unfold s_R_below_inMemory_11
    rw [if_neg (nI_ge (by omega) (by omega)), gr_e k rfl (by omega) (by decide), nI_add]
    by_cases h : S k
    · have e : bz S k = nI 1 := pif_t h
      rw [e, if_neg (show ¬ nI 1 = 0 by decide), bd_e (hsp k S (by omega))]
      obtain ⟨S', h1, h2, h3, h4⟩ := ih (k + 1) n (fun j => S j ∨ E k j) (by omega) (by omega)
      refine ⟨S', fun j hj => h1 j (Or.inl hj), fun a b ha1 ha2 hs he => ?_, fun Q hq hc => h3 Q (fun j hj => hj.elim (hq j) (fun z => hc k j (by omega) (hq k h) z)) hc, h4⟩
      by_cases e : a = k
      · subst e; exact h1 b (Or.inr he)
      · exact h2 a b (by omega) ha2 (Or.inl hs) he
    · have e : bz S k = nI 0 := pif_f h
      rw [e, if_pos (show nI 0 = 0 by decide)]
      obtain ⟨S', h1, h2, h3, h4⟩ := ih (k + 1) n S (by omega) (by omega)
      refine ⟨S', h1, fun a b ha1 ha2 hs he => ?_, h3, h4⟩
      by_cases e : a = k
      · subst e; exact absurd hs h
      · exact h2 a b (by omega) ha2 hs he
theorem cf_below {r0 : Nat} {S : Nat → Prop} (hF : 18 < F) (hsp : ∀ i S, i < 18 → s_R_spread_inMemory F mem dsk fresh x1 (nI i) (bz S) = some (bz (fun j => S j ∨ E i j))) (hE : ∀ a b, a < 18 → E a b → b < 18) (hr : r0 < 18) (hS : ∀ j, j < 18 → (S j ↔ j = r0)) :
    ∃ S' : Nat → Prop, s_R_below_inMemory F mem dsk fresh x1 (bz S) = some (bz S') ∧ ∀ j, j < 18 → (S' j ↔ Tr E r0 j) := by
  have hlt : ∀ a, Tr E r0 a → a < 18 := fun a h => Tr_ind h (S := fun a => a < 18) hr (fun a b _ ha e => hE a b ha e)
  have key : ∀ (r k n : Nat) (S : Nat → Prop), k + r = 18 → r < n → Rd E r0 k (fun j => j < 18 ∧ S j) → ∃ S' : Nat → Prop, s_R_below_inMemory_2 F mem dsk fresh n x1 (nI k) (bz S) = some (bz S') ∧ ∀ j, j < 18 → (S' j ↔ Tr E r0 j) := by
    intro r
    induction r with
    | zero =>
      intro k n S hk hn hR
      obtain ⟨n, rfl⟩ : ∃ q, n = q + 1 := ⟨n - 1, by omega⟩
      have e18 : k = 18 := by omega
      subst e18
      refine ⟨S, ?_, fun j hj => ?_⟩
      · unfold s_R_below_inMemory_2
        rw [if_pos (nI_le (by omega) (by omega))]
      · have := Rd_e hR j
        exact ⟨fun q => this.mp ⟨hj, q⟩, fun q => (this.mpr q).2⟩
    | succ r ih =>
      intro k n S hk hn hR
      obtain ⟨n, rfl⟩ : ∃ q, n = q + 1 := ⟨n - 1, by omega⟩
      obtain ⟨S', h1, h2, h3, h4⟩ := cf_below_11 (F := F) (mem := mem) (dsk := dsk) (fresh := fresh) (x1 := x1) (k2 := s_R_below_inMemory_2 F mem dsk fresh n) (x3 := nI k) hsp 18 0 F S rfl hF
      have hR' : Rd E r0 (k + 1) (fun j => j < 18 ∧ S' j) := Rd_s (fun a b ha he => hE a b (hlt a ha) he) hR (fun i q => ⟨q.1, h1 i q.2⟩) (fun a b q he => ⟨hE a b q.1 he, h2 a b (Nat.zero_le _) q.1 q.2 he⟩) (fun i q => h3 (fun j => j < 18 → Tr E r0 j) (fun j hj hj18 => hR.2.1 j ⟨hj18, hj⟩) (fun a b ha qa he _ => Tr_s (qa ha) he) i q.2 q.1)
      obtain ⟨S'', e, h5⟩ := ih (k + 1) n S' (by omega) (by omega) hR'
      refine ⟨S'', ?_, h5⟩
      unfold s_R_below_inMemory_2
      rw [if_neg (nI_ge (by omega) (by omega)), h4, nI_add]
      exact e
  exact key 18 0 F S rfl hF (Rd_0 hr (fun i => ⟨fun q => (hS i q.1).mp q.2, fun q => by subst q; exact ⟨hr, (hS _ hr).mpr rfl⟩⟩))
theorem cf_tree {S : Nat → Prop} (hF : 18 < F) (hsp : ∀ i S, i < 18 → s_R_spread_inMemory F mem dsk fresh x1 (nI i) (bz S) = some (bz (fun j => S j ∨ E i j))) (hE : ∀ a b, a < 18 → E a b → b < 18) :
    ∃ S' : Nat → Prop, s_R_tree_inMemory F mem dsk fresh x1 (bz S) = some (bz S') ∧ ∀ j, j < 18 → (S' j ↔ Tr E 0 j) := by
  have key : ∀ (r k n : Nat) (S : Nat → Prop), k + r = 18 → r < n → (∀ j, j < k → (S j ↔ j = 0)) → ∃ S' : Nat → Prop, s_R_tree_inMemory_2 F mem dsk fresh n x1 (nI k) (bz S) = some (bz S') ∧ ∀ j, j < 18 → (S' j ↔ Tr E 0 j) := by
    intro r
    induction r with
    | zero =>
      intro k n S hk hn hS
      obtain ⟨n, rfl⟩ : ∃ q, n = q + 1 := ⟨n - 1, by omega⟩
      obtain ⟨S', e, h⟩ := cf_below (r0 := 0) (S := S) hF hsp hE (by omega) (fun j hj => hS j (by omega))
      refine ⟨S', ?_, h⟩
      unfold s_R_tree_inMemory_2
      rw [if_pos (nI_le (by omega) (by omega)), bd_e e]
    | succ r ih =>
      intro k n S hk hn hS
      obtain ⟨n, rfl⟩ : ∃ q, n = q + 1 := ⟨n - 1, by omega⟩
      unfold s_R_tree_inMemory_2 s_R_tree_inMemory_19
      rw [if_neg (nI_ge (by omega) (by omega)), nar1, nar0, ga_e k rfl (by omega) (by decide), ga_e k rfl (by omega) (by decide), nI_clamp (by omega), bz_1, bz_0, nI_add]
      by_cases h0 : k = 0
      · subst h0
        rw [if_pos (show nI 0 = 0 from rfl)]
        exact ih 1 n _ (by omega) (by omega) (fun j hj => ⟨fun q => by omega, fun q => Or.inr q⟩)
      · rw [if_neg (fun q => h0 ((nI0 (by omega)).mp q))]
        refine ih (k + 1) n _ (by omega) (by omega) (fun j hj => ⟨fun q => (hS j (by have := q.2; omega)).mp q.1, fun q => ⟨(hS j (by omega)).mpr q, by omega⟩⟩)
  exact key 18 0 F S rfl hF (fun j hj => absurd hj (Nat.not_lt_zero _))
end BEL
