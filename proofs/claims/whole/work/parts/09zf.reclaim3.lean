-- reclaim: the invariant behind it
theorem cn_inj {Q : Nat → Prop} {m : Nat} {f : Nat → Nat} : ∀ (k : Nat) (P : Nat → Prop), (∀ p, p < k → Q p → f p < m ∧ P (f p)) → (∀ p p', p < k → p' < k → Q p → Q p' → f p = f p' → p = p') → cn Q k ≤ cn P m := by
  intro k
  induction k with
  | zero => intro P _ _; exact Nat.zero_le _
  | succ k ih =>
    intro P h inj
    by_cases q : Q k
    · rw [cn_t q]
      obtain ⟨a, b⟩ := h k (by omega) q
      have e := cn_one (P := P) (Q := fun x => P x ∧ x ≠ f k) (n := m) (k := f k) a b (fun z => z.2 rfl) (fun j _ hj => ⟨fun z => ⟨z, hj⟩, fun z => z.1⟩)
      rw [e]
      have := ih (fun x => P x ∧ x ≠ f k) (fun p hp z => ⟨(h p (by omega) z).1, (h p (by omega) z).2, fun y => by have := inj p k (by omega) (by omega) z q y; omega⟩) (fun p p' hp hp' => inj p p' (by omega) (by omega))
      omega
    · rw [cn_f q]
      exact ih P (fun p hp z => h p (by omega) z) (fun p p' hp hp' => inj p p' (by omega) (by omega))
theorem cn_fun {P : Nat → Prop} {k : Nat} {f : Nat → Nat} : ∀ (m : Nat) (Q : Nat → Prop), (∀ q, q < m → P q → ∃ p, p < k ∧ Q p ∧ f p = q) → cn P m ≤ cn Q k := by
  intro m
  induction m with
  | zero => intro Q _; exact Nat.zero_le _
  | succ m ih =>
    intro Q h
    by_cases q : P m
    · rw [cn_t q]
      obtain ⟨p, a, b, c⟩ := h m (by omega) q
      have e := cn_one (P := Q) (Q := fun x => Q x ∧ x ≠ p) (n := k) (k := p) a b (fun z => z.2 rfl) (fun j _ hj => ⟨fun z => ⟨z, hj⟩, fun z => z.1⟩)
      rw [e]
      have := ih (fun x => Q x ∧ x ≠ p) (fun q' hq' z => by
        obtain ⟨p', a', b', c'⟩ := h q' (by omega) z
        exact ⟨p', a', ⟨b', fun y => by rw [y, c] at c'; omega⟩, c'⟩)
      omega
    · rw [cn_f q]
      exact ih Q (fun q' hq' z => h q' (by omega) z)
noncomputable def rcS (σ : St) (S : Nat → Prop) : St := fun c => if c = 0 then rMk σ S 18 36 else if c = 1 then rT1 σ S 18 else if c = 3 then d3k (rMk σ S 18 36) (σ 3) 36 else if c = 4 then d4k (rT1 σ S 18) (σ 4) 36 else σ c
section RI2
variable {n F : Nat} {σ : St} {S : Nat → Prop}
theorem rc_1 {m : Nat} (hm : m < 90) : rcS σ S 1 m = pif (S (m / 5)) (if m % 5 = 1 ∧ m / 5 ≠ 0 then tEw σ S (m / 5) else σ 1 m) 0 := by
  show (if m / 5 < 18 then _ else _) = _
  rw [if_pos (by omega)]
theorem rc_4 {m : Nat} (hm : m < 90) : rcS σ S 4 m = rcS σ S 1 m := by
  show (if m < 90 ∧ m / 30 * 12 + 1 < 36 then rT1 σ S 18 m else σ 4 m) = rT1 σ S 18 m
  rw [if_pos (by omega)]
theorem rc_3 {m : Nat} (hm : m < 48) : rcS σ S 3 m = rcS σ S 0 m := by
  show (if m < 48 ∧ m / 16 * 12 < 36 then rMk σ S 18 36 m else σ 3 m) = rMk σ S 18 36 m
  rw [if_pos (by omega)]
theorem rc_kd {i : Nat} (hi : i < 18) : kd (rcS σ S 1) i = pif (S i) (kd (σ 1) i) 0 := by
  show rcS σ S 1 (5 * i) = _
  rw [rc_1 (by omega), show 5 * i / 5 = i by omega, if_neg (by omega)]
theorem rc_pt {i k : Nat} (hi : i < 18) (hk : k < 3) : pt (rcS σ S 1) i k = pif (S i) (pt (σ 1) i k) 0 := by
  show rcS σ S 1 (5 * i + 2 + k) = _
  rw [rc_1 (by omega), show (5 * i + 2 + k) / 5 = i by omega, if_neg (by omega)]
theorem rc_lk {i : Nat} (hi : i < 18) : lk (rcS σ S 1) i = pif (S i) (if i ≠ 0 then tEw σ S i else lk (σ 1) i) 0 := by
  show rcS σ S 1 (5 * i + 1) = _
  rw [rc_1 (by omega), show (5 * i + 1) / 5 = i by omega]
  by_cases z : i ≠ 0
  · rw [if_pos ⟨by omega, z⟩, if_pos z]
  · rw [if_neg (fun y => z y.2), if_neg z]
theorem rc_im {i : Nat} (hi : i < 18) (s : S i) : im (rcS σ S 0) i = im (σ 0) i := by
  show pif (i / 6 * 16 + i % 6 < 48 ∧ (((i / 6 * 16 + i % 6) % 16 < 6 ∧ _ < 18 ∧ ¬ S ((i / 6 * 16 + i % 6) / 16 * 6 + (i / 6 * 16 + i % 6) % 16)) ∨ (¬ (i / 6 * 16 + i % 6) % 16 < 6 ∧ _))) 0 (σ 0 (i / 6 * 16 + i % 6)) = _
  rw [pif_f]
  rintro ⟨-, ⟨_, _, c⟩ | ⟨a, _⟩⟩
  · rw [show (i / 6 * 16 + i % 6) / 16 * 6 + (i / 6 * 16 + i % 6) % 16 = i by omega] at c; exact c s
  · omega
theorem rc_bm {b : Nat} (hb : isD b) (p : PF (σ 1) S b ≠ 0) : bm (rcS σ S 0) b = bm (σ 0) b := by
  obtain ⟨h1, h2⟩ := hb
  show pif (b / 12 * 16 + 4 + b % 12 < 48 ∧ (((b / 12 * 16 + 4 + b % 12) % 16 < 6 ∧ _) ∨ (¬ (b / 12 * 16 + 4 + b % 12) % 16 < 6 ∧ _ < 36 ∧ PF (σ 1) S ((b / 12 * 16 + 4 + b % 12) / 16 * 12 + ((b / 12 * 16 + 4 + b % 12) % 16 - 4)) = 0))) 0 (σ 0 (b / 12 * 16 + 4 + b % 12)) = _
  rw [pif_f]
  rintro ⟨-, ⟨a, _⟩ | ⟨_, _, c⟩⟩
  · omega
  · rw [show (b / 12 * 16 + 4 + b % 12) / 16 * 12 + ((b / 12 * 16 + 4 + b % 12) % 16 - 4) = b by omega] at c; exact p c
theorem AL_T (h : ALw σ) {m : Nat} (hm : m < 90) : σ 1 m = σ 4 m := by
  have := (h (12 * (m / 30) + 1) (by omega) (Or.inl (by omega))).2 (m % 30) (by rw [sz_1 (by omega)]; omega)
  unfold cl at this
  rw [if_neg (show ¬ (12 * (m / 30) + 1) % 12 = 0 by omega), if_neg (show ¬ (12 * (m / 30) + 1) % 12 = 0 by omega), if_pos (show (12 * (m / 30) + 1) % 12 = 1 by omega), if_pos (show (12 * (m / 30) + 1) % 12 = 1 by omega), show (12 * (m / 30) + 1) / 12 * 30 + m % 30 = m by omega] at this
  exact this
theorem AL_W (hI : Inv n σ) (h : ALw σ) {d q : Nat} (hd : d < 18) (k2 : kd (σ 1) d = 2) (he : pt (σ 1) d 0 = q / 8) (h0 : q / 8 ≠ 0) : sn σ q = σ 2 q := by
  have := AL_Alk hI h d (q % 8) hd k2 (by rw [he]; exact h0) (by omega)
  rw [he, show 8 * (q / 8) + q % 8 = q by omega] at this
  exact this.symm
theorem rc_Inv (hI : Inv n σ) (hA : ALw σ) (hS : ∀ j, S j ↔ Tr (Ed (σ 1) (σ 2) z1) 0 j) : Inv n (rcS σ S) ∧ owd (rcS σ S) = owd σ := by
  obtain ⟨hn, h, s1, s2, s3, s4⟩ := id hI
  obtain ⟨⟨hX1, hX4⟩, hL4, ⟨hJ1, hJ4⟩, ⟨hR1, hR4⟩, ⟨hn1, hn4⟩, h5, h6, h7, h8, h10, h11, h12, h13, h14, h15, h16, h17, h18, h19, h20⟩ := id h
  have hV := VEm h
  have lt : ∀ j, S j → j < 18 := fun j z => Tr_lt hV (show (0 : Nat) < 18 by omega) ((hS j).mp z)
  have S0 : S 0 := (hS 0).mpr Tr_r
  have e4k : ∀ i, i < 18 → kd (rcS σ S 4) i = kd (rcS σ S 1) i := fun i hi => rc_4 (by omega)
  have e4l : ∀ i, i < 18 → lk (rcS σ S 4) i = lk (rcS σ S 1) i := fun i hi => rc_4 (by omega)
  have e4p : ∀ i k, i < 18 → k < 3 → pt (rcS σ S 4) i k = pt (rcS σ S 1) i k := fun i k hi hk => rc_4 (by omega)
  have z8 : ∀ b, b < 36 → σ 8 b = 0 := fun b hb => Classical.byContradiction fun z => by
    obtain ⟨i, k, hi, hk, e⟩ := s2 b hb z
    have b0 : b ≠ 0 := by have := (h7 b hb z).1.2; intro y; rw [y] at this; omega
    have e1 : pt (σ 1) i k = b := by rw [← e]; exact AL_T hA (by omega)
    have := (h6 i k hi hk (by rw [e1]; exact b0)).2
    rw [e1] at this; exact z this
  have z9 : ∀ i, i < 18 → σ 9 i ≠ 2 := fun i hi z => by
    have a := (h18 i hi z).1
    have b := s3 i hi z
    exact b ((AL_T hA (show 5 * i < 90 by omega)).symm.trans a)
  have nT : ∀ i, S i → kd (σ 1) i ≠ 0 := fun i s z => by
    by_cases i0 : i = 0
    · rw [i0, hR1.1] at z; omega
    · obtain ⟨p, p1, p2, p3, p4⟩ := tree_nm h ((hS i).mp s) i0
      have := (h11 p p1 p2 p3).2.1
      rw [p4] at this; exact this z
  have hk1 : ∀ i, i < 18 → kd (rcS σ S 1) i ≠ 0 → S i ∧ kd (rcS σ S 1) i = kd (σ 1) i := fun i hi z => by
    rw [rc_kd hi] at z ⊢
    by_cases s : S i
    · exact ⟨s, by rw [pif_t s]⟩
    · rw [pif_f s] at z; exact absurd rfl z
  have hp1 : ∀ i k, i < 18 → k < 3 → pt (rcS σ S 1) i k ≠ 0 → S i ∧ pt (rcS σ S 1) i k = pt (σ 1) i k := fun i k hi hk z => by
    rw [rc_pt hi hk] at z ⊢
    by_cases s : S i
    · exact ⟨s, by rw [pif_t s]⟩
    · rw [pif_f s] at z; exact absurd rfl z
  have hPF : ∀ i k, i < 18 → k < 3 → S i → PF (σ 1) S (pt (σ 1) i k) ≠ 0 := fun i k hi hk s z => by
    refine cn_zero.mp z (3 * i + k) (by omega) ⟨?_, ?_⟩
    · rw [show (3 * i + k) / 3 = i by omega]; exact s
    · rw [show (3 * i + k) / 3 = i by omega, show (3 * i + k) % 3 = k by omega]
  -- directories of the state behind
  have hDB : ∀ b, b < 36 → DB (rcS σ S) b → b ≠ 0 ∧ ∃ d, S d ∧ d < 18 ∧ kd (σ 1) d = 2 ∧ pt (σ 1) d 0 = b := fun b hb ⟨b0, z⟩ => by
    refine ⟨b0, ?_⟩
    rcases z with z | ⟨d, hd, z1, z2⟩
    · have : σ 8 b = 2 := z
      rw [z8 b hb] at this; omega
    · obtain ⟨s, e⟩ := hk1 d hd (by rw [z1]; decide)
      obtain ⟨-, e'⟩ := hp1 d 0 hd (by omega) (by rw [z2]; exact b0)
      exact ⟨d, s, hd, by rw [← e]; exact z1, by rw [← e']; exact z2⟩
  have DBo : ∀ b, b < 36 → DB (rcS σ S) b → DB σ b := fun b hb z => by
    obtain ⟨b0, d, -, hd, k2, e⟩ := hDB b hb z
    exact ⟨b0, Or.inr ⟨d, hd, k2, e⟩⟩
  have hsn : ∀ q, q < 288 → DB (rcS σ S) (q / 8) → sn σ q = σ 2 q := fun q hq z => by
    obtain ⟨b0, d, -, hd, k2, e⟩ := hDB (q / 8) (by omega) z
    exact AL_W hI hA hd k2 e b0
  have nmS : ∀ q, q < 288 → DB (rcS σ S) (q / 8) → σ 2 q ≠ 0 → S (σ 2 q % 32) := fun q hq z h0 => by
    obtain ⟨b0, d, s, hd, k2, e⟩ := hDB (q / 8) (by omega) z
    refine (hS _).mpr (Tr_s ((hS d).mp s) ⟨q % 8, by omega, ?_, ?_⟩)
    · rw [en_m k2 (by rw [e]; exact b0), e, show 8 * (q / 8) + q % 8 = q by omega]; exact h0
    · rw [en_m k2 (by rw [e]; exact b0), e, show 8 * (q / 8) + q % 8 = q by omega]
  have ny : ∀ q, ¬ yb σ q := fun q y => by
    obtain ⟨⟨a1, a2⟩, a3, i, i1, i2, i3⟩ := h17 q y
    rw [AL_W hI hA i1 i2 i3 a3] at a2; exact a1 a2
  -- an inode of the tree is named by a cell of a directory of the tree
  have nam : ∀ i, S i → i ≠ 0 → ∃ a c, S a ∧ a < 18 ∧ c < 8 ∧ kd (σ 1) a = 2 ∧ pt (σ 1) a 0 ≠ 0 ∧ σ 2 (8 * pt (σ 1) a 0 + c) ≠ 0 ∧ σ 2 (8 * pt (σ 1) a 0 + c) % 32 = i := fun i s i0 => by
    rcases Tr_last ((hS i).mp s) with e | ⟨a, ta, c, hc, e1, e2⟩
    · exact absurd e i0
    · have hh : kd (σ 1) a = 2 ∧ pt (σ 1) a 0 ≠ 0 := by
        refine Classical.byContradiction fun z => e1 ?_
        unfold en; rw [if_neg (fun y => z ⟨y.1, y.2.1⟩)]
      rw [en_m hh.1 hh.2] at e1 e2
      exact ⟨a, c, (hS a).mpr ta, Tr_lt hV (by omega) ta, hc, hh.1, hh.2, e1, e2⟩
  have tpos : ∀ i, S i → i ≠ 0 → 0 < tEw σ S i := fun i s i0 => by
    obtain ⟨a, c, sa, ha, hc, k2, p0, e1, e2⟩ := nam i s i0
    refine cn_pos.mpr ⟨8 * a + c, by omega, ?_⟩
    rw [show (8 * a + c) / 8 = a by omega, show (8 * a + c) % 8 = c by omega, en_m k2 p0]
    exact ⟨sa, e1, e2⟩
  have p36 : ∀ d, d < 18 → pt (σ 1) d 0 < 36 := fun d hd => by
    rcases (hX1 d hd).2.1 0 (by omega) with z | z
    · omega
    · exact z.1
  have tle : ∀ i, tEw σ S i ≤ Un σ i := fun i => by
    refine cn_inj (f := fun p => 8 * pt (σ 1) (p / 8) 0 + p % 8) 144 _ (fun p hp ⟨a, b, c⟩ => ?_) (fun p p' hp hp' ⟨a, b, c⟩ ⟨a', b', c'⟩ e => ?_)
    · have hh : kd (σ 1) (p / 8) = 2 ∧ pt (σ 1) (p / 8) 0 ≠ 0 := by
        refine Classical.byContradiction fun z => b ?_
        unfold en; rw [if_neg (fun y => z ⟨y.1, y.2.1⟩)]
      rw [en_m hh.1 hh.2] at b c
      have := p36 (p / 8) (by omega)
      refine ⟨by omega, ?_, Or.inl ⟨b, c⟩⟩
      rw [show (8 * pt (σ 1) (p / 8) 0 + p % 8) / 8 = pt (σ 1) (p / 8) 0 by omega]
      exact DBm (by omega) hh.1 hh.2
    · have e : 8 * pt (σ 1) (p / 8) 0 + p % 8 = 8 * pt (σ 1) (p' / 8) 0 + p' % 8 := e
      have hh : pt (σ 1) (p / 8) 0 ≠ 0 := by
        refine Classical.byContradiction fun z => b ?_
        unfold en; rw [if_neg (fun y => z y.2.1)]
      have e1 : pt (σ 1) (p / 8) 0 = pt (σ 1) (p' / 8) 0 := by omega
      have := (hJ1 (p / 8) (p' / 8) 0 0 (by omega) (by omega) (by omega) (by omega) hh e1).1
      omega
  have Une : ∀ i, Un (rcS σ S) i ≤ tEw σ S i := fun i => by
    refine cn_fun (f := fun p => 8 * pt (σ 1) (p / 8) 0 + p % 8) 288 _ (fun q hq ⟨z, y⟩ => ?_)
    obtain ⟨b0, d, s, hd, k2, e⟩ := hDB (q / 8) (by omega) z
    have y' : σ 2 q ≠ 0 ∧ σ 2 q % 32 = i := by
      rcases y with w | w
      · exact w
      · have w' : sn σ q ≠ 0 ∧ sn σ q % 32 = i := w
        rw [hsn q hq z] at w'; exact w'
    refine ⟨8 * d + q % 8, by omega, ?_, ?_⟩
    · rw [show (8 * d + q % 8) / 8 = d by omega, show (8 * d + q % 8) % 8 = q % 8 by omega, en_m k2 (by rw [e]; exact b0), e, show 8 * (q / 8) + q % 8 = q by omega]
      exact ⟨s, y'.1, y'.2⟩
    · show 8 * pt (σ 1) ((8 * d + q % 8) / 8) 0 + (8 * d + q % 8) % 8 = q
      rw [show (8 * d + q % 8) / 8 = d by omega, show (8 * d + q % 8) % 8 = q % 8 by omega, e]; omega
  have Ude : ∀ i, Ud (rcS σ S) i ≤ tEw σ S i := fun i => Nat.le_trans (cn_mono (fun q _ ⟨z, y⟩ => ⟨z, y.elim Or.inr (fun w => Or.inl w.1)⟩)) (Une i)
  have gl : ∀ i, 0 < i → i < 18 → kd (rcS σ S 1) i ≠ 0 → lk (rcS σ S 1) i = tEw σ S i ∧ S i := fun i i0 hi z => by
    obtain ⟨s, -⟩ := hk1 i hi z
    exact ⟨by rw [rc_lk hi, pif_t s, if_pos (by omega)], s⟩
  have gX : VX (rcS σ S 1) := by
    intro i hi
    obtain ⟨a, b, c, d⟩ := hX1 i hi
    by_cases s : S i
    · rw [rc_kd hi, pif_t s]
      refine ⟨a, fun k hk => by rw [rc_pt hi hk, pif_t s]; exact b k hk, fun z => absurd z (nT i s), fun z => ?_⟩
      rw [rc_pt hi (by omega), rc_pt hi (by omega), pif_t s, pif_t s]; exact d z
    · rw [rc_kd hi, pif_f s]
      refine ⟨by omega, fun k hk => by rw [rc_pt hi hk, pif_f s]; exact Or.inl rfl, fun _ => ⟨by rw [rc_lk hi, pif_f s], fun k hk => by rw [rc_pt hi hk, pif_f s]⟩, fun z => by omega⟩
  have gL : VL (rcS σ S 1) := fun i a b c => by
    obtain ⟨e, s⟩ := gl i a b c
    rw [e]; exact tpos i s (by omega)
  have gJ : VJ (rcS σ S 1) := fun i j k l hi hj hk hl h0 he => by
    obtain ⟨-, e1⟩ := hp1 i k hi hk h0
    obtain ⟨-, e2⟩ := hp1 j l hj hl (by rw [← he]; exact h0)
    rw [e1] at h0
    rw [e1, e2] at he
    exact hJ1 i j k l hi hj hk hl h0 he
  have gR : VR (rcS σ S 1) := ⟨by rw [rc_kd (by omega), pif_t S0]; exact hR1.1, by rw [rc_pt (by omega) (by omega), pif_t S0]; exact hR1.2⟩
  have gn : Vn n (rcS σ S 1) := fun i hi => by
    rw [rc_lk hi]
    have a := hn1 i hi
    by_cases s : S i
    · rw [pif_t s]
      split
      · rename_i i0
        have := tle i
        have := h15 i (by omega) hi (nT i s)
        omega
      · exact a
    · rw [pif_f s]; omega
  have g0 : ∀ m, m < 48 → rcS σ S 0 m ≤ 1 := fun m hm => by
    show pif _ 0 (σ 0 m) ≤ 1
    unfold pif; split
    · omega
    · exact (h5.1 m hm).1
  have g6 : V6 (rcS σ S) := fun i k hi hk z => by
    obtain ⟨s, e⟩ := hp1 i k hi hk z
    rw [e] at z ⊢
    have hD := ((hX1 i hi).2.1 k hk).resolve_left z
    exact ⟨by rw [rc_bm hD (hPF i k hi hk s)]; exact (h6 i k hi hk z).1, (h6 i k hi hk z).2⟩
  refine ⟨⟨hn, ⟨⟨gX, ?_⟩, ?_, ⟨gJ, ?_⟩, ⟨gR, ?_⟩, ⟨gn, ?_⟩, ?_, g6, ?_, ?_, ?_, ?_, ?_, ?_, ?_, ?_, ?_, ?_, ?_, ?_, ?_⟩, gL, ?_, ?_, s4⟩, ?_⟩
  · intro i hi
    obtain ⟨a, b, c, d⟩ := gX i hi
    rw [e4k i hi, e4l i hi, e4p i 1 hi (by omega), e4p i 2 hi (by omega)]
    exact ⟨a, fun k hk => by rw [e4p i k hi hk]; exact b k hk, fun z => ⟨(c z).1, fun k hk => by rw [e4p i k hi hk]; exact (c z).2 k hk⟩, d⟩
  · intro i a b c
    rw [e4k i b] at c; rw [e4l i b]; exact gL i a b c
  · intro i j k l hi hj hk hl h0 he
    rw [e4p i k hi hk] at h0 he; rw [e4p j l hj hl] at he
    exact gJ i j k l hi hj hk hl h0 he
  · exact ⟨by rw [e4k 0 (by omega)]; exact gR.1, by rw [e4p 0 0 (by omega) (by omega)]; exact gR.2⟩
  · intro i hi; rw [e4l i hi]; exact gn i hi
  · exact ⟨fun m hm => ⟨g0 m hm, by rw [rc_3 hm]; exact g0 m hm⟩, h5.2⟩
  · intro b hb z; exact absurd (z8 b hb) z
  · intro i k hi hk z
    rw [e4p i k hi hk] at z ⊢
    obtain ⟨a, -⟩ := g6 i k hi hk z
    obtain ⟨s, e⟩ := hp1 i k hi hk z
    have hD : isD (pt (rcS σ S 1) i k) := ((gX i hi).2.1 k hk).resolve_left z
    refine ⟨a, ?_, ?_, Or.inl rfl⟩
    · have : bm (rcS σ S 3) (pt (rcS σ S 1) i k) = bm (rcS σ S 0) (pt (rcS σ S 1) i k) := rc_3 (by have := hD.1; have := hD.2; omega)
      rw [this]; exact a
    · exact (hA _ hD.1 (Or.inr ⟨i, k, hi, hk, e.symm⟩)).1
  · intro i hi _ _; exact e4k i hi
  · intro q hq hD h0
    have h0 : σ 2 q ≠ 0 := h0
    obtain ⟨a, b, c, d, e⟩ := h11 q hq (DBo _ (by omega) hD) h0
    have s := nmS q hq hD h0
    have i18 := lt _ s
    refine ⟨a, ?_, ?_, ?_, fun _ => ?_⟩
    · show kd (rcS σ S 1) (σ 2 q % 32) ≠ 0; rw [rc_kd i18, pif_t s]; exact b
    · show im (rcS σ S 0) (σ 2 q % 32) = 1; rw [rc_im i18 s]; exact c
    · show kd (rcS σ S 1) (σ 2 q % 32) = 2 → pt (rcS σ S 1) (σ 2 q % 32) 0 ≠ 0
      rw [rc_kd i18, rc_pt i18 (by omega), pif_t s, pif_t s]; exact d
    · show kd (rcS σ S 4) (σ 2 q % 32) ≠ 0; rw [e4k _ i18, rc_kd i18, pif_t s]; exact b
  · intro q hq hD h0
    have es : sn (rcS σ S) q = σ 2 q := hsn q hq hD
    rw [es] at h0 ⊢
    obtain ⟨a, b, c, d, e⟩ := h11 q hq (DBo _ (by omega) hD) h0
    have s := nmS q hq hD h0
    have i18 := lt _ s
    refine ⟨a, ?_, ?_, ?_, ?_, ?_⟩
    · show kd (rcS σ S 1) (σ 2 q % 32) ≠ 0; rw [rc_kd i18, pif_t s]; exact b
    · show im (rcS σ S 0) (σ 2 q % 32) = 1; rw [rc_im i18 s]; exact c
    · show kd (rcS σ S 4) (σ 2 q % 32) ≠ 0; rw [e4k _ i18, rc_kd i18, pif_t s]; exact b
    · show im (rcS σ S 3) (σ 2 q % 32) = 1
      have : im (rcS σ S 3) (σ 2 q % 32) = im (rcS σ S 0) (σ 2 q % 32) := rc_3 (by omega)
      rw [this, rc_im i18 s]; exact c
    · show kd (rcS σ S 4) (σ 2 q % 32) = 2 → pt (rcS σ S 4) (σ 2 q % 32) 0 ≠ 0
      rw [e4k _ i18, e4p _ 0 i18 (by omega), rc_kd i18, rc_pt i18 (by omega), pif_t s, pif_t s]; exact d
  · intro q hq hD _ _
    exact (hsn q hq hD).symm
  · intro q hq z
    have z' : σ 8 (q / 8) = 2 := z
    rw [z8 _ (by omega)] at z'; omega
  · intro i a b c
    rw [(gl i a b c).1]; exact Une i
  · intro i a b c
    rw [e4k i b] at c
    rw [e4l i b, (gl i a b c).1]; exact Ude i
  · intro q y; exact absurd y (ny q)
  · intro i hi z; exact absurd z (z9 i hi)
  · intro i hi a b
    rw [e4k i hi] at b; exact absurd a b
  · intro i i0 hi k2 hp hno _
    exfalso
    obtain ⟨s, -⟩ := hk1 i hi (by rw [k2]; decide)
    obtain ⟨a, c, sa, ha, hc, ka, pa, e1, e2⟩ := nam i s (by omega)
    have := p36 a ha
    refine hno (8 * pt (σ 1) a 0 + c) (by omega) ?_ ⟨e1, e2⟩
    rw [show (8 * pt (σ 1) a 0 + c) / 8 = pt (σ 1) a 0 by omega]
    refine ⟨pa, Or.inr ⟨a, ha, ?_, ?_⟩⟩
    · rw [rc_kd ha, pif_t sa]; exact ka
    · rw [rc_pt ha (by omega), pif_t sa]
  · intro b hb z; exact absurd (z8 b hb) z
  · intro i hi z; exact absurd z (z9 i hi)
  · funext j
    unfold owd
    split
    · rw [cn_zero.mpr (fun q hq z => ?_), cn_zero.mpr (fun q hq z => ?_)]
      · obtain ⟨⟨b0, z1⟩, z2, z3⟩ := z
        rcases z1 with w | ⟨d, hd, k2, e⟩
        · rw [z8 _ (by omega)] at w; omega
        · have := z3.1
          rw [AL_W hI hA hd k2 e b0] at this; exact this z2
      · obtain ⟨z1, z2, z3⟩ := z
        have z3' : sn σ q ≠ 0 := z3.1
        rw [hsn q hq z1] at z3'; exact z3' z2
    · rfl
-- sets that are the same below eighteen
theorem PF_c {S' : Nat → Prop} (h : ∀ j, j < 18 → (S j ↔ S' j)) {b : Nat} : PF (σ 1) S b = PF (σ 1) S' b := cn_congr (fun q _ => and_congr_left' (h _ (by omega)))
theorem tE_c {S' : Nat → Prop} (h : ∀ j, j < 18 → (S j ↔ S' j)) {i : Nat} : tEw σ S i = tEw σ S' i := cn_congr (fun q _ => and_congr_left' (h _ (by omega)))
theorem rT1_c {S' : Nat → Prop} (h : ∀ j, j < 18 → (S j ↔ S' j)) : rT1 σ S 18 = rT1 σ S' 18 := by
  funext m; unfold rT1
  by_cases a : m / 5 < 18
  · rw [if_pos a, if_pos a, tE_c h, pif_congr (h _ a)]
  · rw [if_neg a, if_neg a]
theorem rMk_c {S' : Nat → Prop} (h : ∀ j, j < 18 → (S j ↔ S' j)) : rMk σ S 18 36 = rMk σ S' 18 36 := by
  funext m; unfold rMk
  refine pif_congr (and_congr_right' (or_congr (and_congr_right' (and_congr_right (fun z => not_congr (h _ z)))) ?_))
  rw [PF_c h]
theorem cI_c {S' : Nat → Prop} (h : ∀ j, j < 18 → (S j ↔ S' j)) : cI σ S 18 = cI σ S' 18 := sm_congr (fun k hk => pif_congr (h k hk))
theorem cB_c {S' : Nat → Prop} (h : ∀ j, j < 18 → (S j ↔ S' j)) : cBw σ S 36 = cBw σ S' 36 := sm_congr (fun k _ => by rw [PF_c h])
end RI2
theorem st_reclaim (F : Nat) (hF : 1080 < F) : St_reclaim F Rl0 := by
  intro n v0 v1 v2 v3 v4 v5 v6 v7 v8 v9 v10 v11 v12 v13 r0 r1 r2 r3 r4 r5 r6 r7 r8 r9 r10 r11 hn hR
  obtain ⟨σ0, hI0, h0, h1, h2, h3, h4, h5, h6, h7, h8, h9, h10, h11, h12, h13, h14, h15, h16, h17, h18, ⟨C0, h19⟩, ⟨S1, h20⟩, ⟨S2, h21⟩, ⟨S3, h22⟩, h23⟩ := hR
  subst h0 h1 h2 h3 h4 h5 h6 h7 h8 h9 h10 h11 h12 h13 h14 h15 h16 h17 h18 h19 h20 h21 h22 h23
  obtain ⟨r, σ, q, q2, C, U1, U2, U3, hI, hK, hA, t4, t5⟩ := syn2 hF n σ0 v4 v9 C0 S1 S2 S3 hI0
  have hT := Inv_VT1 hI
  have hV := VEm hI.2.1
  obtain ⟨x, q', ex, tx⟩ := cf_reach (F := F) q (by omega) hT z1_le hV (show (0 : Nat) < 18 by omega)
  obtain ⟨A, eA, tA⟩ := cf_treeM (F := F) (A := σ 0) (dsk := zz (rM (σ 3) (σ 4) (σ 5))) (fresh := zz (σ 6)) U1 (by omega) hT hV
  have c1 : ∀ j, j < 18 → ((fun j => bt x j = true) j ↔ Tr (Ed (σ 1) (σ 2) z1) 0 j) := fun j hj => tx j (by omega)
  obtain ⟨gI, gO⟩ := rc_Inv hI hA (fun j => Iff.rfl)
  have e1 : rT1 σ (fun j => bt x j = true) 18 = rcS σ (Tr (Ed (σ 1) (σ 2) z1) 0) 1 := rT1_c c1
  have e0 : rMk σ (fun j => bt x j = true) 18 36 = rcS σ (Tr (Ed (σ 1) (σ 2) z1) 0) 0 := rMk_c c1
  have f1 : rT1 σ A 18 = rcS σ (Tr (Ed (σ 1) (σ 2) z1) 0) 1 := rT1_c tA
  have f0 : rMk σ A 18 36 = rcS σ (Tr (Ed (σ 1) (σ 2) z1) 0) 0 := rMk_c tA
  have eV : s_V_reclaim F (zz (σ0 2)) (zz z1) (zz (σ0 0)) (zz (σ0 1)) v4 (zz (σ0 3)) (zz (σ0 4)) (zz (σ0 5)) (zz (σ0 6)) v9 (zz (σ0 7)) (zz (σ0 8)) (zz (σ0 9)) (nI (σ0 10 0)) = OutW (nI (cI σ (Tr (Ed (σ 1) (σ 2) z1) 0) 18 + cBw σ (Tr (Ed (σ 1) (σ 2) z1) 0) 36)) (rcS σ (Tr (Ed (σ 1) (σ 2) z1) 0)) q' q2 := by
    unfold s_V_reclaim
    rw [bd_e t4]
    show bd (s_S_reach F (zz (σ 1)) (zz (σ0 2)) (zz z1) (nI 0) q) _ = _
    rw [← hK.1, bd_e ex]
    have k18 := rv_18 (F := F) (x := x) (mq := q') (dq := q2) (d0 := zz (σ 3)) (d1 := zz (σ 4)) (d2 := zz (σ 5)) (d3 := zz (σ 6)) (y := zz (σ 7)) (dr := zz (σ 8)) (l := zz (σ 9)) (rn := nI (σ 10 0)) (by omega) hI ((tx 0 (by omega)).mpr Tr_r) 18 0 F rfl (by omega)
    have k83 := rv_83 (F := F) (x := x) (mq := q') (dq := q2) (d0 := zz (σ 3)) (d1 := zz (σ 4)) (d2 := zz (σ 5)) (d3 := zz (σ 6)) (y := zz (σ 7)) (dr := zz (σ 8)) (l := zz (σ 9)) (rn := nI (σ 10 0)) (by omega) hI 36 0 F rfl (by omega)
    have k136 := rv_136 (F := F) (σ := σ) (M := rMk σ (fun j => bt x j = true) 18 36) (T := rT1 σ (fun j => bt x j = true) 18) (D0 := σ 3) (D1 := σ 4) (D2 := σ 5) (c := nI (cI σ (fun j => bt x j = true) 18 + cBw σ (fun j => bt x j = true) 36)) (mq := q') (dq := q2) (d3 := zz (σ 6)) (y := zz (σ 7)) (dr := zz (σ 8)) (l := zz (σ 9)) (rn := nI (σ 10 0)) (by omega) 36 0 F rfl (by omega)
    rw [d3_0, d4_0] at k136
    rw [rMk_0, rT1_0] at k18
    refine k18.trans (k83.trans (k136.trans ?_))
    rw [e0, e1, cI_c c1, cB_c c1]; rfl
  have eR : s_R_reclaim F (bz (yb σ0)) (zz (σ0 8)) (zz (rM (σ0 0) (σ0 1) (σ0 2))) (zz (rM (σ0 3) (σ0 4) (σ0 5))) (zz (σ0 6)) (bz (fun i => σ0 9 i = 2)) (zz (owd σ0)) (zz C0) (bz S1) (bz S2) (bz S3) (nI (σ0 10 0)) = OutR (nI (cI σ (Tr (Ed (σ 1) (σ 2) z1) 0) 18 + cBw σ (Tr (Ed (σ 1) (σ 2) z1) 0) 36)) (rcS σ (Tr (Ed (σ 1) (σ 2) z1) 0)) C A U2 U3 := by
    unfold s_R_reclaim
    rw [bd_e t5]
    show bd (s_R_tree_inMemory F (zz (rM (σ 0) (σ 1) (σ 2))) (zz (rM (σ 3) (σ 4) (σ 5))) (zz (σ 6)) (nI 0) (bz U1)) _ = _
    rw [bd_e eA]
    have k18 := rr_18 (F := F) (σ := σ) (S := A) (dsk := zz (rM (σ 3) (σ 4) (σ 5))) (y := bz (yb σ)) (dr := zz (σ 8)) (fr := zz (σ 6)) (rl := bz (fun i => σ 9 i = 2)) (od := zz (owd σ)) (ct := zz C) (i2 := bz U2) (i3 := bz U3) (mv := nI (σ 10 0)) (by omega) 18 0 F rfl (by omega)
    have k87 := rr_87 (F := F) (σ := σ) (S := A) (dsk := zz (rM (σ 3) (σ 4) (σ 5))) (x1 := nI (cI σ A 18)) (M := rMk σ A 18 0) (y := bz (yb σ)) (dr := zz (σ 8)) (fr := zz (σ 6)) (rl := bz (fun i => σ 9 i = 2)) (od := zz (owd σ)) (ct := zz C) (i2 := bz U2) (i3 := bz U3) (mv := nI (σ 10 0)) (by omega) hI 17 1 F rfl (by omega) (by omega)
    have k134 := rr_134 (F := F) (σ := σ) (S := A) (dsk := zz (rM (σ 3) (σ 4) (σ 5))) (y := bz (yb σ)) (dr := zz (σ 8)) (fr := zz (σ 6)) (rl := bz (fun i => σ 9 i = 2)) (od := zz (owd σ)) (ct := zz C) (i2 := bz U2) (i3 := bz U3) (mv := nI (σ 10 0)) (by omega) hI 36 0 F rfl (by omega)
    have k191 := rr_191 (F := F) (X := rM (rMk σ A 18 36) (rT1 σ A 18) (σ 2)) (Y := rM (σ 3) (σ 4) (σ 5)) (x1 := nI (cI σ A 18 + cBw σ A 36)) (i1 := bz A) (y := bz (yb σ)) (dr := zz (σ 8)) (fr := zz (σ 6)) (rl := bz (fun i => σ 9 i = 2)) (od := zz (owd σ)) (ct := zz C) (i2 := bz U2) (i3 := bz U3) (mv := nI (σ 10 0)) 1080 0 F rfl (by omega)
    have x0 : rXk (rM (rMk σ A 18 36) (rT1 σ A 18) (σ 2)) (rM (σ 3) (σ 4) (σ 5)) 0 = rM (σ 3) (σ 4) (σ 5) := by
      funext m; unfold rXk; rw [if_neg (by omega)]
    rw [x0, rX_rM] at k191
    rw [rMk_0, rT2_0] at k18
    rw [rT3_1, rT3_18] at k87
    refine k18.trans (k87.trans (k134.trans (k191.trans ?_)))
    rw [f0, f1, cI_c tA, cB_c tA, ← gO]; rfl
  exact ⟨_, _, _, _, _, _, _, _, _, _, _, _, _, _, _, _, _, _, _, _, _, _, _, _, _, eV, eR, rcS σ (Tr (Ed (σ 1) (σ 2) z1) 0), Inv_s gI hn, rfl, rfl, by rw [show rcS σ (Tr (Ed (σ 1) (σ 2) z1) 0) 2 = σ 2 from rfl, hK.1], rfl, rfl, rfl, rfl, rfl, rfl, rfl, rfl, rfl, rfl, rfl, rfl, rfl, rfl, rfl, rfl, ⟨C, rfl⟩, ⟨A, rfl⟩, ⟨U2, rfl⟩, ⟨U3, rfl⟩, rfl⟩
