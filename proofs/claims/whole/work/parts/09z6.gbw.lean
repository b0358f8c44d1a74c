-- giving back behind each cell is giving back behind the last
section GW
variable {n F : Nat} {σ : St} {q e : Nat}
theorem F0_DB (h : Gdw n σ) {b : Nat} (hF : F0w σ b) : ¬ DB σ b := by
  obtain ⟨h0, hb, hd, i, k, hi, hk, hJ, he⟩ := hF
  have hp : pt (σ 1) i k ≠ 0 := by rw [he]; omega
  rintro ⟨-, z | ⟨j, j1, j2, j3⟩⟩
  · have := (Inw_V6 h.1 i k hi hk hp).2
    rw [he] at this; omega
  · have := h.1.2.2.1.1 j i 0 k j1 hi (by omega) hk (by rw [j3]; omega) (j3.trans he.symm)
    obtain ⟨r1, r2⟩ := this
    subst r1 r2
    have := (h.2.2.2.2 j hJ).2.2 j2
    rw [he] at this; exact hd this
theorem UF_F0 (h : Gdw n σ) {i : Nat} : UF σ (F0w σ) i = 0 := cn_zero.mpr (fun p _ z => F0_DB h z.1 z.2.1)
theorem Gd_J (h : Gdw n σ) (i : Nat) : Js σ i ↔ J0 σ i := by
  have hC : Cl σ (J0 σ) (F0w σ) := by
    refine ⟨fun i a b c d => ?_, fun b h0 hb hd ho => ?_⟩
    · rw [UF_F0 h] at d; exact ⟨a, b, c, by omega⟩
    · exact ⟨h0, hb, hd, ho.resolve_left (fun z => hd (h.2.2.1 b hb z))⟩
  exact ⟨fun z => z _ _ hC, fun z => (Cl_s σ).1 i z.1 z.2.1 z.2.2.1 (by have := z.2.2.2; omega)⟩
theorem Gd_F (h : Gdw n σ) (b : Nat) : Fs σ b ↔ F0w σ b := by
  have hC : Cl σ (J0 σ) (F0w σ) := by
    refine ⟨fun i a b c d => ?_, fun b h0 hb hd ho => ?_⟩
    · rw [UF_F0 h] at d; exact ⟨a, b, c, by omega⟩
    · exact ⟨h0, hb, hd, ho.resolve_left (fun z => hd (h.2.2.1 b hb z))⟩
  refine ⟨fun z => z _ _ hC, fun ⟨h0, hb, hd, i, k, hi, hk, hJ, he⟩ => (Cl_s σ).2 b h0 hb hd (Or.inr ⟨i, k, hi, hk, (Gd_J h i).mpr hJ, he⟩)⟩
theorem Gd_N (h : Gdw n σ) (i : Nat) : NN σ i ↔ False := by
  refine ⟨fun ⟨a, b, c⟩ => ?_, fun z => z.elim⟩
  rcases c with c | c
  · exact (h.2.2.2.2 i ((Gd_J h i).mp c)).2.1 b
  · exact h.2.2.2.1 i a c b
theorem Gd_GB (h : Gdw n σ) : GB σ = app σ (J0 σ) (F0w σ) (fun _ => False) := by
  rw [GB_def]; exact app_congr (Gd_J h) (Gd_F h) (Gd_N h)
theorem Gd_Inv (hn : n ≤ 512) (h : Gdw n σ) : Inv n (GB σ) := GB_Inv hn h.1 h.2.1 (Gd_Vx h)
theorem Gd_lk (h : Gdw n σ) {i : Nat} : lk (GB σ 1) i = lk (σ 1) i := by
  rw [Gd_GB h, ap_lk, UF_F0 h]; rfl
theorem Gd_kd (h : Gdw n σ) {i : Nat} : kd (GB σ 1) i = pif (J0 σ i) 0 (kd (σ 1) i) := by
  rw [Gd_GB h, ap_kd]
theorem Gd_pt (h : Gdw n σ) {i k : Nat} (hk : k < 3) : pt (GB σ 1) i k = pif (J0 σ i) 0 (pt (σ 1) i k) := by
  rw [Gd_GB h, ap_pt hk]
theorem Gd_DB (h : Gdw n σ) {b : Nat} (hb : b < 36) : DB (GB σ) b ↔ DB σ b := by
  rw [gDB h.1 hb]
  exact ⟨fun z => z.2, fun z => ⟨fun y => F0_DB h ((Gd_F h b).mp y) z, z⟩⟩
-- an inode that memory names is not given back
theorem nm_J (h : Inw n σ) (hq : q < 288) (hD : DB σ (q / 8)) (h0 : σ 2 q ≠ 0) : ¬ Js σ (σ 2 q % 32) := fun z => by
  have f := (J_named h z hq hD (Or.inl ⟨h0, rfl⟩)).1
  have := (JF_zero h).2 _ f hD (q % 8) (by omega)
  rw [show 8 * (q / 8) + q % 8 = q by omega] at this
  exact h0 this
theorem Ea_GB (h : Inw n σ) (hq : q < 288) (hD : DB σ (q / 8)) (h0 : σ 2 q ≠ 0) : Ea (GB σ) q ↔ Ea σ q := by
  have e : kd (GB σ 1) (σ 2 q % 32) = kd (σ 1) (σ 2 q % 32) := by rw [gkd, pif_f (nm_J h hq hD h0)]
  refine or_congr Iff.rfl (or_congr Iff.rfl (and_congr_left' ?_))
  show kd (GB σ 1) (σ 2 q % 32) = 2 ↔ _
  rw [e]
theorem GB_tree (h : Inw n σ) (hx : Vx σ) {i : Nat} : Tr (Ed (GB σ 1) (σ 2) z1) 0 i ↔ Tr (Ed (σ 1) (σ 2) z1) 0 i := by
  constructor
  · refine Tr_mono (fun a b _ ⟨c, hc, e1, e2⟩ => ⟨c, hc, ?_⟩)
    have hh : kd (GB σ 1) a = 2 ∧ pt (GB σ 1) a 0 ≠ 0 := by
      refine Classical.byContradiction fun z => e1 ?_
      unfold en; rw [if_neg (fun y => z ⟨y.1, y.2.1⟩)]
    obtain ⟨j, ek⟩ := gJk (show kd (GB σ 1) a ≠ 0 by rw [hh.1]; decide)
    have ep : pt (GB σ 1) a 0 = pt (σ 1) a 0 := by rw [gpt (by omega), pif_f j]
    rw [en_m hh.1 hh.2] at e1 e2
    rw [en_m (by rw [← ek]; exact hh.1) (by rw [← ep]; exact hh.2), ← ep]
    exact ⟨e1, e2⟩
  · intro t
    have hK : Kp σ (GB σ) := ⟨rfl, fun j _ => by
      by_cases z : Js σ j
      · right; rw [gkd, pif_t z]
      · left; exact ⟨by rw [gkd, pif_f z], fun k hk => by rw [gpt hk, pif_f z]⟩⟩
    exact (Kp_tree (GB_Inw h hx) h hK t).2.1
theorem Wz_GB (h : Inw n σ) (hq : q < 288) (hD : DB σ (q / 8)) (hW : Wz σ q e) : Wz (GB σ) q e := by
  obtain ⟨a, b⟩ := hW
  refine ⟨a, b.imp_right (fun ⟨c, d, f⟩ => ⟨c, d, fun z => f ((Ea_GB h hq hD (by rw [a]; exact c)).mp z)⟩)⟩
theorem GBw (hn : n ≤ 512) (h : Gdw n σ) (hq : q < 288) (hD : DB σ (q / 8)) (h6q : σ 6 (q / 8) = 0) (hW : Wz σ q e) : GB (wrS (GB σ) q e) = GB (wrS σ q e) ∧ Gdw n (wrS (GB σ) q e) ∧ Gdw n (wrS σ q e) := by
  have hI := Gd_Inv hn h
  have g1 := wr_Gd h hq hD h6q hW
  have g2 : Gdw n (wrS (GB σ) q e) := wr_Gd (Inv_Gd hI) hq ((Gd_DB h (by omega)).mpr hD) h6q (Wz_GB h.1 hq hD hW)
  refine ⟨?_, g2, g1⟩
  have hsn : sn (GB σ) q = sn σ q := rfl
  have lk2 : ∀ j, lk (wrS (GB σ) q e 1) j = lk (wrS σ q e 1) j := fun j => by rw [wr_lk, wr_lk, hsn, Gd_lk h]
  have kd2 : ∀ j, kd (wrS (GB σ) q e 1) j = pif (J0 σ j) 0 (kd (σ 1) j) := fun j => by rw [wr_kd, Gd_kd h]
  have pt2 : ∀ j k, k < 3 → pt (wrS (GB σ) q e 1) j k = pif (J0 σ j) 0 (pt (σ 1) j k) := fun j k hk => by rw [wr_pt hk, Gd_pt h hk]
  have jm : ∀ i, J0 σ i → J0 (wrS σ q e) i := fun i ⟨a, b, c, d⟩ => ⟨a, b, by rw [wr_kd]; exact c, by rw [wr_lk, d]; split <;> rfl⟩
  have j2 : ∀ i, J0 (wrS (GB σ) q e) i ↔ ¬ J0 σ i ∧ J0 (wrS σ q e) i := by
    intro i
    constructor
    · rintro ⟨a, b, c, d⟩
      rw [kd2] at c; rw [lk2] at d
      by_cases z : J0 σ i
      · rw [pif_t z] at c; exact absurd rfl c
      · rw [pif_f z] at c; exact ⟨z, a, b, by rw [wr_kd]; exact c, d⟩
    · rintro ⟨z, a, b, c, d⟩
      rw [wr_kd] at c
      exact ⟨a, b, by rw [kd2, pif_f z]; exact c, by rw [lk2]; exact d⟩
  have j1 : ∀ i, J0 (wrS σ q e) i ↔ J0 σ i ∨ J0 (wrS (GB σ) q e) i := by
    intro i
    rw [j2]
    by_cases z : J0 σ i
    · exact ⟨fun _ => Or.inl z, fun _ => jm i z⟩
    · exact ⟨fun w => Or.inr ⟨z, w⟩, fun w => w.elim (fun y => absurd y z) (fun y => y.2)⟩
  have p2 : ∀ i k, k < 3 → J0 (wrS (GB σ) q e) i → pt (wrS (GB σ) q e 1) i k = pt (σ 1) i k := fun i k hk z => by rw [pt2 i k hk, pif_f ((j2 i).mp z).1]
  have k2 : ∀ i, J0 (wrS (GB σ) q e) i → kd (wrS (GB σ) q e 1) i = kd (σ 1) i := fun i z => by rw [kd2 i, pif_f ((j2 i).mp z).1]
  have hdn : ∀ b, dn (wrS (GB σ) q e) b ↔ dn σ b := fun b => Iff.rfl
  have hdn1 : ∀ b, dn (wrS σ q e) b ↔ dn σ b := fun b => Iff.rfl
  have f1 : ∀ b, F0w (wrS σ q e) b ↔ F0w σ b ∨ F0w (wrS (GB σ) q e) b := by
    intro b
    constructor
    · rintro ⟨a, b', c, i, k, hi, hk, hj, he⟩
      rw [wr_pt hk] at he
      rcases (j1 i).mp hj with z | z
      · exact Or.inl ⟨a, b', c, i, k, hi, hk, z, he⟩
      · exact Or.inr ⟨a, b', c, i, k, hi, hk, z, by rw [p2 i k hk z]; exact he⟩
    · rintro (⟨a, b', c, i, k, hi, hk, hj, he⟩ | ⟨a, b', c, i, k, hi, hk, hj, he⟩)
      · exact ⟨a, b', c, i, k, hi, hk, jm i hj, by rw [wr_pt hk]; exact he⟩
      · exact ⟨a, b', c, i, k, hi, hk, (j1 i).mpr (Or.inr hj), by rw [wr_pt hk, ← p2 i k hk hj]; exact he⟩
  have ga := Gd_GB h
  rw [Gd_GB g1, Gd_GB g2]
  funext c m
  match c with
  | 0 =>
    show pif ((m % 16 < 6 ∧ False) ∨ (¬ m % 16 < 6 ∧ F0w (wrS (GB σ) q e) (m / 16 * 12 + (m % 16 - 4)))) 0 (GB σ 0 m) = pif ((m % 16 < 6 ∧ False) ∨ (¬ m % 16 < 6 ∧ F0w (wrS σ q e) (m / 16 * 12 + (m % 16 - 4)))) 0 (σ 0 m)
    rw [ga]
    show pif _ 0 (pif ((m % 16 < 6 ∧ False) ∨ (¬ m % 16 < 6 ∧ F0w σ (m / 16 * 12 + (m % 16 - 4)))) 0 (σ 0 m)) = _
    by_cases x : m % 16 < 6
    · rw [pif_f (fun z => z.elim (fun y => y.2) (fun y => y.1 x)), pif_f (fun z => z.elim (fun y => y.2) (fun y => y.1 x)), pif_f (fun z => z.elim (fun y => y.2) (fun y => y.1 x))]
    · by_cases y : F0w (wrS (GB σ) q e) (m / 16 * 12 + (m % 16 - 4))
      · rw [← ga, pif_t (Or.inr ⟨x, y⟩), pif_t (Or.inr ⟨x, (f1 _).mpr (Or.inr y)⟩)]
      · rw [← ga, pif_f (P := (m % 16 < 6 ∧ False) ∨ (¬ m % 16 < 6 ∧ F0w (wrS (GB σ) q e) (m / 16 * 12 + (m % 16 - 4)))) (fun z => z.elim (fun w => w.2) (fun w => y w.2))]
        refine pif_congr (or_congr Iff.rfl (and_congr_right' ?_))
        exact ⟨fun w => (f1 _).mpr (Or.inl w), fun w => ((f1 _).mp w).resolve_right y⟩
  | 1 =>
    show (if m % 5 = 1 then wrS (GB σ) q e 1 m - UF (wrS (GB σ) q e) (F0w (wrS (GB σ) q e)) (m / 5) else pif (J0 (wrS (GB σ) q e) (m / 5)) 0 (wrS (GB σ) q e 1 m)) = (if m % 5 = 1 then wrS σ q e 1 m - UF (wrS σ q e) (F0w (wrS σ q e)) (m / 5) else pif (J0 (wrS σ q e) (m / 5)) 0 (wrS σ q e 1 m))
    by_cases x : m % 5 = 1
    · rw [if_pos x, if_pos x, UF_F0 g1, UF_F0 g2]
      have := lk2 (m / 5)
      have this : wrS (GB σ) q e 1 (5 * (m / 5) + 1) = wrS σ q e 1 (5 * (m / 5) + 1) := this
      rw [show 5 * (m / 5) + 1 = m by omega] at this
      rw [this]
    · rw [if_neg x, if_neg x, wr_1 x, wr_1 x]
      have e1 : GB σ 1 m = pif (J0 σ (m / 5)) 0 (σ 1 m) := by
        rw [ga]
        show (if m % 5 = 1 then _ else _) = _
        rw [if_neg x]
      rw [e1]
      by_cases y : J0 (wrS (GB σ) q e) (m / 5)
      · rw [pif_t y, pif_t ((j1 _).mpr (Or.inr y))]
      · rw [pif_f y]
        exact pif_congr ⟨fun w => (j1 _).mpr (Or.inl w), fun w => ((j1 _).mp w).resolve_right y⟩
  | 8 =>
    have O1 : ∀ J : Nat → Prop, (∀ i, J i → ¬ J0 σ i) → (m ≠ 0 ∧ ∃ i k, i < 18 ∧ k < 3 ∧ J i ∧ pt (σ 1) i k = m) → ¬ (m ≠ 0 ∧ ∃ i k, i < 18 ∧ k < 3 ∧ J0 σ i ∧ pt (σ 1) i k = m) := by
      rintro J hJ ⟨z, i, k, a1, a2, a3, a4⟩ ⟨-, i', k', b1, b2, b3, b4⟩
      have := h.1.2.2.1.1 i i' k k' a1 b1 a2 b2 (by rw [a4]; exact z) (a4.trans b4.symm)
      exact hJ i a3 (this.1 ▸ b3)
    show pif (F0w (wrS (GB σ) q e) m) 0 (pif (m ≠ 0 ∧ ∃ i k, i < 18 ∧ k < 3 ∧ J0 (wrS (GB σ) q e) i ∧ kd (wrS (GB σ) q e 1) i = 2 ∧ pt (wrS (GB σ) q e 1) i k = m) 2 (pif (m ≠ 0 ∧ ∃ i k, i < 18 ∧ k < 3 ∧ J0 (wrS (GB σ) q e) i ∧ pt (wrS (GB σ) q e 1) i k = m) 1 (GB σ 8 m))) = pif (F0w (wrS σ q e) m) 0 (pif (m ≠ 0 ∧ ∃ i k, i < 18 ∧ k < 3 ∧ J0 (wrS σ q e) i ∧ kd (wrS σ q e 1) i = 2 ∧ pt (wrS σ q e 1) i k = m) 2 (pif (m ≠ 0 ∧ ∃ i k, i < 18 ∧ k < 3 ∧ J0 (wrS σ q e) i ∧ pt (wrS σ q e 1) i k = m) 1 (σ 8 m)))
    have e8 : GB σ 8 m = pif (F0w σ m) 0 (pif (m ≠ 0 ∧ ∃ i k, i < 18 ∧ k < 3 ∧ J0 σ i ∧ kd (σ 1) i = 2 ∧ pt (σ 1) i k = m) 2 (pif (m ≠ 0 ∧ ∃ i k, i < 18 ∧ k < 3 ∧ J0 σ i ∧ pt (σ 1) i k = m) 1 (σ 8 m))) := by rw [ga]; rfl
    have c2 : (m ≠ 0 ∧ ∃ i k, i < 18 ∧ k < 3 ∧ J0 (wrS (GB σ) q e) i ∧ kd (wrS (GB σ) q e 1) i = 2 ∧ pt (wrS (GB σ) q e 1) i k = m) ↔ (m ≠ 0 ∧ ∃ i k, i < 18 ∧ k < 3 ∧ J0 (wrS (GB σ) q e) i ∧ kd (σ 1) i = 2 ∧ pt (σ 1) i k = m) :=
      ⟨fun ⟨z, i, k, a1, a2, a3, a4, a5⟩ => ⟨z, i, k, a1, a2, a3, by rw [← k2 i a3]; exact a4, by rw [← p2 i k a2 a3]; exact a5⟩, fun ⟨z, i, k, a1, a2, a3, a4, a5⟩ => ⟨z, i, k, a1, a2, a3, by rw [k2 i a3]; exact a4, by rw [p2 i k a2 a3]; exact a5⟩⟩
    have c1 : (m ≠ 0 ∧ ∃ i k, i < 18 ∧ k < 3 ∧ J0 (wrS (GB σ) q e) i ∧ pt (wrS (GB σ) q e 1) i k = m) ↔ (m ≠ 0 ∧ ∃ i k, i < 18 ∧ k < 3 ∧ J0 (wrS (GB σ) q e) i ∧ pt (σ 1) i k = m) :=
      ⟨fun ⟨z, i, k, a1, a2, a3, a5⟩ => ⟨z, i, k, a1, a2, a3, by rw [← p2 i k a2 a3]; exact a5⟩, fun ⟨z, i, k, a1, a2, a3, a5⟩ => ⟨z, i, k, a1, a2, a3, by rw [p2 i k a2 a3]; exact a5⟩⟩
    have d2 : (m ≠ 0 ∧ ∃ i k, i < 18 ∧ k < 3 ∧ J0 (wrS σ q e) i ∧ kd (wrS σ q e 1) i = 2 ∧ pt (wrS σ q e 1) i k = m) ↔ (m ≠ 0 ∧ ∃ i k, i < 18 ∧ k < 3 ∧ J0 (wrS σ q e) i ∧ kd (σ 1) i = 2 ∧ pt (σ 1) i k = m) :=
      ⟨fun ⟨z, i, k, a1, a2, a3, a4, a5⟩ => ⟨z, i, k, a1, a2, a3, by rw [wr_kd] at a4; exact a4, by rw [wr_pt a2] at a5; exact a5⟩, fun ⟨z, i, k, a1, a2, a3, a4, a5⟩ => ⟨z, i, k, a1, a2, a3, by rw [wr_kd]; exact a4, by rw [wr_pt a2]; exact a5⟩⟩
    have d1 : (m ≠ 0 ∧ ∃ i k, i < 18 ∧ k < 3 ∧ J0 (wrS σ q e) i ∧ pt (wrS σ q e 1) i k = m) ↔ (m ≠ 0 ∧ ∃ i k, i < 18 ∧ k < 3 ∧ J0 (wrS σ q e) i ∧ pt (σ 1) i k = m) :=
      ⟨fun ⟨z, i, k, a1, a2, a3, a5⟩ => ⟨z, i, k, a1, a2, a3, by rw [wr_pt a2] at a5; exact a5⟩, fun ⟨z, i, k, a1, a2, a3, a5⟩ => ⟨z, i, k, a1, a2, a3, by rw [wr_pt a2]; exact a5⟩⟩
    rw [pif_congr c2, pif_congr c1, pif_congr d2, pif_congr d1, e8]
    have FO : ∀ ω : St, F0w ω m → (∀ i k, k < 3 → J0 ω i → pt (ω 1) i k = pt (σ 1) i k) → (m ≠ 0 ∧ ∃ i k, i < 18 ∧ k < 3 ∧ J0 ω i ∧ pt (σ 1) i k = m) := fun ω ⟨a, b, c, i, k, hi, hk, hj, he⟩ hp => ⟨by omega, i, k, hi, hk, hj, by rw [← hp i k hk hj]; exact he⟩
    by_cases x : m ≠ 0 ∧ ∃ i k, i < 18 ∧ k < 3 ∧ J0 (wrS (GB σ) q e) i ∧ pt (σ 1) i k = m
    · have nx := O1 _ (fun i z => ((j2 i).mp z).1) x
      have nF : ¬ F0w σ m := fun z => nx (FO σ z (fun _ _ _ _ => rfl))
      have e1 : F0w (wrS σ q e) m ↔ F0w (wrS (GB σ) q e) m := by rw [f1]; exact ⟨fun w => w.resolve_left nF, Or.inr⟩
      rw [pif_congr e1, pif_t x, pif_t (P := m ≠ 0 ∧ ∃ i k, i < 18 ∧ k < 3 ∧ J0 (wrS σ q e) i ∧ pt (σ 1) i k = m)]
      · congr 1
        refine pif_congr ⟨fun ⟨z, i, k, a1, a2, a3, a4⟩ => ⟨z, i, k, a1, a2, (j1 i).mpr (Or.inr a3), a4⟩, fun ⟨z, i, k, a1, a2, a3, a4, a5⟩ => ⟨z, i, k, a1, a2, ((j1 i).mp a3).resolve_left (fun w => nx ⟨z, i, k, a1, a2, w, a5⟩), a4, a5⟩⟩
      · obtain ⟨z, i, k, a1, a2, a3, a4⟩ := x
        exact ⟨z, i, k, a1, a2, (j1 i).mpr (Or.inr a3), a4⟩
    · have nF : ¬ F0w (wrS (GB σ) q e) m := fun z => x (FO _ z p2)
      have e1 : F0w (wrS σ q e) m ↔ F0w σ m := by rw [f1]; exact ⟨fun w => w.resolve_right nF, Or.inl⟩
      rw [pif_congr e1, pif_f nF, pif_f x, pif_f (P := m ≠ 0 ∧ ∃ i k, i < 18 ∧ k < 3 ∧ J0 (wrS (GB σ) q e) i ∧ kd (σ 1) i = 2 ∧ pt (σ 1) i k = m) (fun ⟨z, i, k, a1, a2, a3, a4, a5⟩ => x ⟨z, i, k, a1, a2, a3, a5⟩)]
      congr 1
      rw [pif_congr (P := m ≠ 0 ∧ ∃ i k, i < 18 ∧ k < 3 ∧ J0 (wrS σ q e) i ∧ pt (σ 1) i k = m) (Q := m ≠ 0 ∧ ∃ i k, i < 18 ∧ k < 3 ∧ J0 σ i ∧ pt (σ 1) i k = m) ⟨fun ⟨z, i, k, a1, a2, a3, a5⟩ => ⟨z, i, k, a1, a2, ((j1 i).mp a3).resolve_right (fun w => x ⟨z, i, k, a1, a2, w, a5⟩), a5⟩, fun ⟨z, i, k, a1, a2, a3, a5⟩ => ⟨z, i, k, a1, a2, jm i a3, a5⟩⟩]
      exact pif_congr ⟨fun ⟨z, i, k, a1, a2, a3, a4, a5⟩ => ⟨z, i, k, a1, a2, jm i a3, a4, a5⟩, fun ⟨z, i, k, a1, a2, a3, a4, a5⟩ => ⟨z, i, k, a1, a2, ((j1 i).mp a3).resolve_right (fun w => x ⟨z, i, k, a1, a2, w, a5⟩), a4, a5⟩⟩
  | 9 =>
    have nine : ∀ ω : St, Gdw n ω → app ω (J0 ω) (F0w ω) (fun _ => False) 9 m = pif (J0 ω m) 2 (ω 9 m) := by
      intro ω hω
      show pif False 0 (pif (J0 ω m) 2 (pif (0 < m ∧ m < 18 ∧ kd (ω 1) m ≠ 0 ∧ lk (ω 1) m ≤ UF ω (F0w ω) m) 1 (ω 9 m))) = _
      rw [pif_f (fun z => z)]
      by_cases j : J0 ω m
      · rw [pif_t j, pif_t j]
      · rw [pif_f j, pif_f j, pif_f]
        rintro ⟨a, b, c, d⟩
        rw [UF_F0 hω] at d
        exact j ⟨a, b, c, by omega⟩
    rw [nine _ g1, nine _ g2]
    show pif _ 2 (GB σ 9 m) = pif _ 2 (σ 9 m)
    rw [ga, nine _ h]
    by_cases y : J0 (wrS (GB σ) q e) m
    · rw [← ga, pif_t y, pif_t ((j1 _).mpr (Or.inr y))]
    · rw [← ga, pif_f y]
      exact pif_congr ⟨fun w => (j1 _).mpr (Or.inl w), fun w => ((j1 _).mp w).resolve_right y⟩
  | 2 => rfl
  | 3 => rfl
  | 4 => rfl
  | 5 => rfl
  | 6 => rfl
  | 7 => rfl
  | _ + 10 => rfl
end GW
