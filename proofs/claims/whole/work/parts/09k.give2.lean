-- giving back, the class: the loops
def fl (σ : St) (F : Nat → Prop) (i : Nat) : Prop := 0 < i ∧ i < 18 ∧ kd (σ 1) i ≠ 0 ∧ lk (σ 1) i ≤ UF σ F i
def GI (σ : St) (J F N : Nat → Prop) : Prop :=
  (∀ i, J i → fl σ F i) ∧ (∀ b, F b → 0 < b ∧ b < 36 ∧ ¬ dn σ b ∧ (σ 8 b ≠ 0 ∨ ∃ i k, i < 18 ∧ k < 3 ∧ J i ∧ pt (σ 1) i k = b)) ∧ (∀ i, N i → i < 18 ∧ kd (σ 4) i = 0 ∧ (J i ∨ σ 9 i = 2)) ∧ (∀ i, J i → Js σ i) ∧ (∀ b, F b → Fs σ b)
section AP
variable {σ : St} {J F N : Nat → Prop}
theorem ap_kd {i : Nat} : kd (app σ J F N 1) i = pif (J i) 0 (kd (σ 1) i) := by
  show (if (5 * i) % 5 = 1 then _ else pif (J (5 * i / 5)) 0 (σ 1 (5 * i))) = _
  rw [if_neg (by omega), show 5 * i / 5 = i by omega]
theorem ap_lk {i : Nat} : lk (app σ J F N 1) i = lk (σ 1) i - UF σ F i := by
  show (if (5 * i + 1) % 5 = 1 then σ 1 (5 * i + 1) - UF σ F ((5 * i + 1) / 5) else _) = _
  rw [if_pos (by omega), show (5 * i + 1) / 5 = i by omega]
theorem ap_pt {i k : Nat} (hk : k < 3) : pt (app σ J F N 1) i k = pif (J i) 0 (pt (σ 1) i k) := by
  show (if (5 * i + 2 + k) % 5 = 1 then _ else pif (J ((5 * i + 2 + k) / 5)) 0 (σ 1 (5 * i + 2 + k))) = _
  rw [if_neg (by omega), show (5 * i + 2 + k) / 5 = i by omega]
theorem ap_VT (hT : VT (σ 1)) : VT (app σ J F N 1) := by
  intro i hi
  obtain ⟨h1, h2, h3⟩ := hT i hi
  refine ⟨?_, ?_, fun k hk => ?_⟩
  · rw [ap_kd]; by_cases j : J i
    · rw [pif_t j]; omega
    · rw [pif_f j]; exact h1
  · rw [ap_lk]; omega
  · rw [ap_pt hk]; by_cases j : J i
    · rw [pif_t j]; exact Or.inl rfl
    · rw [pif_f j]; exact h3 k hk
theorem ap_N1 {N' : Nat → Prop} : app σ J F N' 1 = app σ J F N 1 := rfl
theorem ap_N8 {N' : Nat → Prop} : app σ J F N' 8 = app σ J F N 8 := rfl
theorem ap_J0 {J' : Nat → Prop} : app σ J' F N 0 = app σ J F N 0 := rfl
theorem E4 {i : Nat} (hi : i < 18) : up (app σ J F N 0) (i / 6 * 16 + i % 6) 0 = app σ J F (fun j => N j ∨ j = i) 0 := by
  funext n
  by_cases e : n = i / 6 * 16 + i % 6
  · subst e
    rw [up_s]
    show _ = pif (((i / 6 * 16 + i % 6) % 16 < 6 ∧ (N ((i / 6 * 16 + i % 6) / 16 * 6 + (i / 6 * 16 + i % 6) % 16) ∨ (i / 6 * 16 + i % 6) / 16 * 6 + (i / 6 * 16 + i % 6) % 16 = i)) ∨ _) 0 _
    rw [pif_t (Or.inl ⟨by omega, Or.inr (by omega)⟩)]
  · rw [up_n e]
    show pif _ 0 _ = pif ((n % 16 < 6 ∧ (N (n / 16 * 6 + n % 16) ∨ n / 16 * 6 + n % 16 = i)) ∨ _) 0 _
    refine pif_congr (or_congr_left (and_congr_right fun h => ⟨Or.inl, fun z => z.resolve_right (fun q => ?_)⟩))
    omega
theorem E5 {i : Nat} : up (app σ J F N 9) i 0 = app σ J F (fun j => N j ∨ j = i) 9 := by
  funext n
  by_cases e : n = i
  · subst e; rw [up_s]; show _ = pif (N n ∨ n = n) 0 _; rw [pif_t (Or.inr rfl)]
  · rw [up_n e]; show pif (N n) 0 _ = pif (N n ∨ n = i) 0 _
    exact pif_congr ⟨Or.inl, fun z => z.resolve_right e⟩
theorem E1 {i : Nat} (h0 : ¬ J i) : up (dT (app σ J F N 1) i 0 3) (5 * i) 0 = app σ (fun j => J j ∨ j = i) F N 1 := by
  funext n
  show _ = (if n % 5 = 1 then σ 1 n - UF σ F (n / 5) else pif (J (n / 5) ∨ n / 5 = i) 0 (σ 1 n))
  by_cases e : n = 5 * i
  · subst e; rw [up_s, if_neg (by omega), pif_t (Or.inr (by omega))]
  · rw [up_n e]; unfold dT
    by_cases h : n / 5 = i ∧ 2 + 0 ≤ n % 5 ∧ n % 5 < 2 + 3
    · rw [if_pos h, if_neg (by omega), pif_t (Or.inr h.1)]
    · rw [if_neg h]
      show (if n % 5 = 1 then σ 1 n - UF σ F (n / 5) else pif (J (n / 5)) 0 (σ 1 n)) = _
      by_cases h1 : n % 5 = 1
      · rw [if_pos h1, if_pos h1]
      · rw [if_neg h1, if_neg h1]
        exact pif_congr ⟨Or.inl, fun z => z.resolve_right (fun q => by omega)⟩
theorem E3 {i : Nat} (hN : ¬ N i) : up (app σ J F N 9) i 2 = app σ (fun j => J j ∨ j = i) F N 9 := by
  funext n
  by_cases e : n = i
  · subst e; rw [up_s]; show _ = pif (N n) 0 (pif (J n ∨ n = n) 2 _); rw [pif_f hN, pif_t (Or.inr rfl)]
  · rw [up_n e]; show pif (N n) 0 (pif (J n) 2 _) = pif (N n) 0 (pif (J n ∨ n = i) 2 _)
    congr 1; exact pif_congr ⟨Or.inl, fun z => z.resolve_right e⟩
theorem E2 {i : Nat} (hi : i < 18) (h0 : ¬ J i) (hk : kd (σ 1) i = 1 ∨ kd (σ 1) i = 2) (hJ : VJ (σ 1)) (h6 : V6 σ) (hJ18 : ∀ j, J j → j < 18) (hF : ∀ b, F b → σ 8 b ≠ 0 ∨ ∃ i k, i < 18 ∧ k < 3 ∧ J i ∧ pt (σ 1) i k = b) : dD (app σ J F N 1) (app σ J F N 8) i 0 3 = app σ (fun j => J j ∨ j = i) F N 8 := by
  funext b
  show pif (b ≠ 0 ∧ ∃ k', 0 ≤ k' ∧ k' < 3 ∧ pt (app σ J F N 1) i k' = b) (kd (app σ J F N 1) i) (app σ J F N 8 b) = pif (F b) 0 (pif (b ≠ 0 ∧ ∃ x k, x < 18 ∧ k < 3 ∧ (J x ∨ x = i) ∧ kd (σ 1) x = 2 ∧ pt (σ 1) x k = b) 2 (pif (b ≠ 0 ∧ ∃ x k, x < 18 ∧ k < 3 ∧ (J x ∨ x = i) ∧ pt (σ 1) x k = b) 1 (σ 8 b)))
  rw [ap_kd, pif_f h0]
  by_cases h : b ≠ 0 ∧ ∃ k', 0 ≤ k' ∧ k' < 3 ∧ pt (app σ J F N 1) i k' = b
  · rw [pif_t h]
    obtain ⟨hb, k', _, hk3, e⟩ := h
    rw [ap_pt hk3, pif_f h0] at e
    have uniq : ∀ x k, x < 18 → k < 3 → pt (σ 1) x k = b → x = i := fun x k hx hk ex => (hJ x i k k' hx hi hk hk3 (by rw [ex]; exact hb) (ex.trans e.symm)).1
    have hnF : ¬ F b := by
      intro q
      rcases hF b q with z | ⟨x, k, hx, hk, jx, ex⟩
      · exact z (by rw [← e]; exact (h6 i k' hi hk3 (by rw [e]; exact hb)).2)
      · exact h0 (uniq x k hx hk ex ▸ jx)
    rw [pif_f hnF]
    rcases hk with k1 | k2
    · rw [pif_f (fun ⟨_, x, k, hx, hk, _, k2, ex⟩ => by rw [uniq x k hx hk ex] at k2; omega), pif_t ⟨hb, i, k', hi, hk3, Or.inr rfl, e⟩, k1]
    · rw [pif_t ⟨hb, i, k', hi, hk3, Or.inr rfl, k2, e⟩, k2]
  · rw [pif_f h]
    show pif (F b) 0 (pif (b ≠ 0 ∧ ∃ x k, x < 18 ∧ k < 3 ∧ J x ∧ kd (σ 1) x = 2 ∧ pt (σ 1) x k = b) 2 (pif (b ≠ 0 ∧ ∃ x k, x < 18 ∧ k < 3 ∧ J x ∧ pt (σ 1) x k = b) 1 (σ 8 b))) = _
    have no : ∀ x k, b ≠ 0 → k < 3 → pt (σ 1) x k = b → x ≠ i := fun x k hb hk ex q => h ⟨hb, k, Nat.zero_le _, hk, by rw [ap_pt hk, pif_f h0, ← q]; exact ex⟩
    congr 1
    rw [pif_congr (P := b ≠ 0 ∧ ∃ x k, x < 18 ∧ k < 3 ∧ J x ∧ kd (σ 1) x = 2 ∧ pt (σ 1) x k = b) (Q := b ≠ 0 ∧ ∃ x k, x < 18 ∧ k < 3 ∧ (J x ∨ x = i) ∧ kd (σ 1) x = 2 ∧ pt (σ 1) x k = b) ⟨fun ⟨a, x, k, h1, h2, h3, h4⟩ => ⟨a, x, k, h1, h2, Or.inl h3, h4⟩, fun ⟨a, x, k, h1, h2, h3, h4, h5⟩ => ⟨a, x, k, h1, h2, h3.resolve_right (no x k a h2 h5), h4, h5⟩⟩]
    congr 1
    exact pif_congr ⟨fun ⟨a, x, k, h1, h2, h3, h4⟩ => ⟨a, x, k, h1, h2, Or.inl h3, h4⟩, fun ⟨a, x, k, h1, h2, h3, h4⟩ => ⟨a, x, k, h1, h2, h3.resolve_right (no x k a h2 h4), h4⟩⟩
theorem E6 {b : Nat} : up (app σ J F N 8) b 0 = app σ J (fun x => F x ∨ x = b) N 8 := by
  funext n
  by_cases e : n = b
  · subst e; rw [up_s]; show _ = pif (F n ∨ n = n) 0 _; rw [pif_t (Or.inr rfl)]
  · rw [up_n e]; show pif (F n) 0 _ = pif (F n ∨ n = b) 0 _
    exact pif_congr ⟨Or.inl, fun z => z.resolve_right e⟩
theorem E7 {b : Nat} (hb : isD b) : up (app σ J F N 0) (b / 12 * 16 + 4 + b % 12) 0 = app σ J (fun x => F x ∨ x = b) N 0 := by
  obtain ⟨h1, h2⟩ := hb
  funext n
  show _ = pif ((n % 16 < 6 ∧ N (n / 16 * 6 + n % 16)) ∨ (¬ n % 16 < 6 ∧ (F (n / 16 * 12 + (n % 16 - 4)) ∨ n / 16 * 12 + (n % 16 - 4) = b))) 0 (σ 0 n)
  by_cases e : n = b / 12 * 16 + 4 + b % 12
  · rw [e, up_s, pif_t (Or.inr ⟨by omega, Or.inr (by omega)⟩)]
  · rw [up_n e]
    show pif ((n % 16 < 6 ∧ N (n / 16 * 6 + n % 16)) ∨ (¬ n % 16 < 6 ∧ F (n / 16 * 12 + (n % 16 - 4)))) 0 (σ 0 n) = _
    exact pif_congr (or_congr_right (and_congr_right fun h => ⟨Or.inl, fun z => z.resolve_right (fun q => by omega)⟩))
theorem E8n {b : Nat} (hD : ¬ DB σ b) : app σ J (fun x => F x ∨ x = b) N 1 = app σ J F N 1 := by
  funext n
  show (if n % 5 = 1 then σ 1 n - UF σ (fun x => F x ∨ x = b) (n / 5) else _) = _
  rw [UF_not hD]; rfl
theorem E9n {b : Nat} (hD : ¬ DB σ b) : app σ J (fun x => F x ∨ x = b) N 9 = app σ J F N 9 := by
  funext n
  show pif (N n) 0 (pif (J n) 2 (pif (0 < n ∧ n < 18 ∧ kd (σ 1) n ≠ 0 ∧ lk (σ 1) n ≤ UF σ (fun x => F x ∨ x = b) n) 1 (σ 9 n))) = _
  rw [UF_not hD]; rfl
theorem E8 {b : Nat} (hb : b < 36) (hD : DB σ b) (hF : ¬ F b) : tl (app σ J F N 1) (fun i => gb σ b i 8) = app σ J (fun x => F x ∨ x = b) N 1 := by
  funext n
  show (if n % 5 = 1 then app σ J F N 1 n - gb σ b (n / 5) 8 else app σ J F N 1 n) = (if n % 5 = 1 then σ 1 n - UF σ (fun x => F x ∨ x = b) (n / 5) else pif (J (n / 5)) 0 (σ 1 n))
  rw [UF_add hb hD hF]
  by_cases h : n % 5 = 1
  · rw [if_pos h, if_pos h]
    show (if n % 5 = 1 then σ 1 n - UF σ F (n / 5) else _) - _ = _
    rw [if_pos h]; omega
  · rw [if_neg h, if_neg h]
    show (if n % 5 = 1 then _ else pif (J (n / 5)) 0 (σ 1 n)) = _
    rw [if_neg h]
theorem E9 {b : Nat} (hb : b < 36) (hD : DB σ b) (hF : ¬ F b) (hg : ∀ i, 0 < gb σ b i 8 → 0 < i ∧ i < 18 ∧ kd (σ 1) i ≠ 0 ∧ ¬ J i ∧ ¬ N i) : ll (app σ J F N 1) (app σ J F N 9) (fun i => gb σ b i 8) = app σ J (fun x => F x ∨ x = b) N 9 := by
  funext i
  show pif (0 < gb σ b i 8 ∧ lk (app σ J F N 1) i ≤ gb σ b i 8) 1 (pif (N i) 0 (pif (J i) 2 (pif (0 < i ∧ i < 18 ∧ kd (σ 1) i ≠ 0 ∧ lk (σ 1) i ≤ UF σ F i) 1 (σ 9 i)))) = pif (N i) 0 (pif (J i) 2 (pif (0 < i ∧ i < 18 ∧ kd (σ 1) i ≠ 0 ∧ lk (σ 1) i ≤ UF σ (fun x => F x ∨ x = b) i) 1 (σ 9 i)))
  rw [UF_add hb hD hF, ap_lk]
  by_cases h : 0 < gb σ b i 8
  · obtain ⟨a1, a2, a3, a4, a5⟩ := hg i h
    rw [pif_f a5, pif_f a4, pif_f a5, pif_f a4]
    by_cases z : lk (σ 1) i - UF σ F i ≤ gb σ b i 8
    · rw [pif_t ⟨h, z⟩, pif_t ⟨a1, a2, a3, by omega⟩]
    · rw [pif_f (fun q => z q.2), pif_f (fun q => z (by have := q.2.2.2; omega)), pif_f (fun q => z (by have := q.2.2.2; omega))]
  · have e : gb σ b i 8 = 0 := by omega
    rw [pif_f (fun q => h q.1), e, Nat.add_zero]
end AP
